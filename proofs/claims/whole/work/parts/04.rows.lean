set_option maxRecDepth 20000 in
theorem ggX6_init_X4_init : GoodIn wsX6_init wsX4_init := goodIn_r _ [16, 17, 2, 3, 18, 8, 19, 20, 21, 22, 23, 24, 25, 26, 27, 28, 29, 30, 31, 32, 33] (by decide +kernel) (by decide +kernel)
set_option maxRecDepth 20000 in
theorem gX6_init_X4_init : GoodIn wsX6_init (wsX4_init) := ggX6_init_X4_init
theorem dX6_init_0 : decode cX6_init 0 = .ok (.aload_n 0, 1) := by decide +kernel
theorem dX6_init_1 : decode cX6_init 1 = .ok (.invokespecial 3, 3) := by decide +kernel
theorem dX6_init_4 : decode cX6_init 4 = .ok (.aload_n 0, 1) := by decide +kernel
theorem dX6_init_5 : decode cX6_init 5 = .ok (.new 9, 3) := by decide +kernel
theorem dX6_init_8 : decode cX6_init 8 = .ok (.dup, 1) := by decide +kernel
theorem dX6_init_9 : decode cX6_init 9 = .ok (.invokespecial 11, 3) := by decide +kernel
theorem dX6_init_12 : decode cX6_init 12 = .ok (.putfield 12, 3) := by decide +kernel
theorem dX6_init_15 : decode cX6_init 15 = .ok (.aload_n 0, 1) := by decide +kernel
theorem dX6_init_16 : decode cX6_init 16 = .ok (.sipush 151, 3) := by decide +kernel
theorem dX6_init_19 : decode cX6_init 19 = .ok (.newarray .int, 2) := by decide +kernel
theorem dX6_init_21 : decode cX6_init 21 = .ok (.putfield 18, 3) := by decide +kernel
theorem dX6_init_24 : decode cX6_init 24 = .ok (.aload_n 0, 1) := by decide +kernel
theorem dX6_init_25 : decode cX6_init 25 = .ok (.sipush 151, 3) := by decide +kernel
theorem dX6_init_28 : decode cX6_init 28 = .ok (.newarray .int, 2) := by decide +kernel
theorem dX6_init_30 : decode cX6_init 30 = .ok (.putfield 22, 3) := by decide +kernel
theorem dX6_init_33 : decode cX6_init 33 = .ok (.aload_n 0, 1) := by decide +kernel
theorem dX6_init_34 : decode cX6_init 34 = .ok (.sipush 151, 3) := by decide +kernel
theorem dX6_init_37 : decode cX6_init 37 = .ok (.newarray .int, 2) := by decide +kernel
theorem dX6_init_39 : decode cX6_init 39 = .ok (.putfield 25, 3) := by decide +kernel
theorem dX6_init_42 : decode cX6_init 42 = .ok (.aload_n 0, 1) := by decide +kernel
theorem dX6_init_43 : decode cX6_init 43 = .ok (.sipush 151, 3) := by decide +kernel
theorem dX6_init_46 : decode cX6_init 46 = .ok (.newarray .int, 2) := by decide +kernel
theorem dX6_init_48 : decode cX6_init 48 = .ok (.putfield 28, 3) := by decide +kernel
theorem dX6_init_51 : decode cX6_init 51 = .ok (.iconst 0, 1) := by decide +kernel
theorem dX6_init_52 : decode cX6_init 52 = .ok (.istore_n 1, 1) := by decide +kernel
theorem dX6_init_53 : decode cX6_init 53 = .ok (.iload_n 1, 1) := by decide +kernel
theorem dX6_init_54 : decode cX6_init 54 = .ok (.aload_n 0, 1) := by decide +kernel
theorem dX6_init_55 : decode cX6_init 55 = .ok (.getfield 18, 3) := by decide +kernel
theorem dX6_init_58 : decode cX6_init 58 = .ok (.arraylength, 1) := by decide +kernel
theorem dX6_init_59 : decode cX6_init 59 = .ok (.if_icmp .ge 17, 3) := by decide +kernel
theorem dX6_init_62 : decode cX6_init 62 = .ok (.aload_n 0, 1) := by decide +kernel
theorem dX6_init_63 : decode cX6_init 63 = .ok (.getfield 18, 3) := by decide +kernel
theorem dX6_init_66 : decode cX6_init 66 = .ok (.iload_n 1, 1) := by decide +kernel
theorem dX6_init_67 : decode cX6_init 67 = .ok (.ldc 31, 2) := by decide +kernel
theorem dX6_init_69 : decode cX6_init 69 = .ok (.iastore, 1) := by decide +kernel
theorem dX6_init_70 : decode cX6_init 70 = .ok (.iinc 1 1, 3) := by decide +kernel
theorem dX6_init_73 : decode cX6_init 73 = .ok (.goto (-20), 3) := by decide +kernel
theorem dX6_init_76 : decode cX6_init 76 = .ok (.return_, 1) := by decide +kernel
set_option maxRecDepth 20000 in
theorem ggX6_fillSingle_X6_fill : GoodIn wsX6_fillSingle wsX6_fill := goodIn_r _ [7, 8, 9, 10, 11, 12, 13, 14, 15, 16, 17, 18, 19, 20, 21, 22, 23, 24, 25, 26, 27, 28, 29, 30, 31, 32] (by decide +kernel) (by decide +kernel)
set_option maxRecDepth 20000 in
theorem gX6_fillSingle_X6_fill : GoodIn wsX6_fillSingle (wsV RX6 32 RX6 yX6_fill wsX6_fill) := goodIn_app (goodIn_of _ (by decide +kernel)) ggX6_fillSingle_X6_fill
theorem dX6_fillSingle_0 : decode cX6_fillSingle 0 = .ok (.aload_n 0, 1) := by decide +kernel
theorem dX6_fillSingle_1 : decode cX6_fillSingle 1 = .ok (.aload_n 0, 1) := by decide +kernel
theorem dX6_fillSingle_2 : decode cX6_fillSingle 2 = .ok (.getfield 22, 3) := by decide +kernel
theorem dX6_fillSingle_5 : decode cX6_fillSingle 5 = .ok (.aload_n 0, 1) := by decide +kernel
theorem dX6_fillSingle_6 : decode cX6_fillSingle 6 = .ok (.getfield 18, 3) := by decide +kernel
theorem dX6_fillSingle_9 : decode cX6_fillSingle 9 = .ok (.iconst 0, 1) := by decide +kernel
theorem dX6_fillSingle_10 : decode cX6_fillSingle 10 = .ok (.iconst 0, 1) := by decide +kernel
theorem dX6_fillSingle_11 : decode cX6_fillSingle 11 = .ok (.invokevirtual 32, 3) := by decide +kernel
theorem dX6_fillSingle_14 : decode cX6_fillSingle 14 = .ok (.return_, 1) := by decide +kernel
set_option maxRecDepth 20000 in
theorem ggX6_singles_X9_at : GoodIn wsX6_singles wsX9_at := goodIn_r _ [4] (by decide +kernel) (by decide +kernel)
set_option maxRecDepth 20000 in
theorem gX6_singles_X9_at_n36 : GoodIn wsX6_singles (wsX9_at) := ggX6_singles_X9_at
theorem dX6_singles_0 : decode cX6_singles 0 = .ok (.aload_n 0, 1) := by decide +kernel
theorem dX6_singles_1 : decode cX6_singles 1 = .ok (.getfield 22, 3) := by decide +kernel
theorem dX6_singles_4 : decode cX6_singles 4 = .ok (.iload_n 1, 1) := by decide +kernel
theorem dX6_singles_5 : decode cX6_singles 5 = .ok (.invokestatic 36, 3) := by decide +kernel
theorem dX6_singles_8 : decode cX6_singles 8 = .ok (.ireturn, 1) := by decide +kernel
set_option maxRecDepth 20000 in
theorem ggX6_entailsPlainly_X6_refuting : GoodIn wsX6_entailsPlainly wsX6_refuting := goodIn_r _ [6, 7, 8, 9, 10, 5, 11, 12, 13, 14, 15, 16, 17, 18, 19, 20, 21, 22, 23, 24, 25, 26, 27, 28, 29, 30, 31, 32, 33, 34, 35, 36] (by decide +kernel) (by decide +kernel)
set_option maxRecDepth 20000 in
theorem gX6_entailsPlainly_X6_refuting : GoodIn wsX6_entailsPlainly (wsV RX6 40 RX6 yX6_refuting wsX6_refuting) := goodIn_app (goodIn_of _ (by decide +kernel)) ggX6_entailsPlainly_X6_refuting
theorem dX6_entailsPlainly_0 : decode cX6_entailsPlainly 0 = .ok (.aload_n 0, 1) := by decide +kernel
theorem dX6_entailsPlainly_1 : decode cX6_entailsPlainly 1 = .ok (.aload_n 0, 1) := by decide +kernel
theorem dX6_entailsPlainly_2 : decode cX6_entailsPlainly 2 = .ok (.getfield 22, 3) := by decide +kernel
theorem dX6_entailsPlainly_5 : decode cX6_entailsPlainly 5 = .ok (.iload_n 1, 1) := by decide +kernel
theorem dX6_entailsPlainly_6 : decode cX6_entailsPlainly 6 = .ok (.iload_n 2, 1) := by decide +kernel
theorem dX6_entailsPlainly_7 : decode cX6_entailsPlainly 7 = .ok (.invokevirtual 40, 3) := by decide +kernel
theorem dX6_entailsPlainly_10 : decode cX6_entailsPlainly 10 = .ok (.ifCond .ne 7, 3) := by decide +kernel
theorem dX6_entailsPlainly_13 : decode cX6_entailsPlainly 13 = .ok (.iconst 1, 1) := by decide +kernel
theorem dX6_entailsPlainly_14 : decode cX6_entailsPlainly 14 = .ok (.goto 4, 3) := by decide +kernel
theorem dX6_entailsPlainly_17 : decode cX6_entailsPlainly 17 = .ok (.iconst 0, 1) := by decide +kernel
theorem dX6_entailsPlainly_18 : decode cX6_entailsPlainly 18 = .ok (.ireturn, 1) := by decide +kernel
set_option maxRecDepth 20000 in
theorem ggX6_refutesWithTwo_X6_usefulLast_h : GoodIn wsX6_refutesWithTwo [Cond.code yX6_usefulLast cX6_usefulLast 2 (some .int)] := goodIn_r _ [7] (by decide +kernel) (by decide +kernel)
set_option maxRecDepth 20000 in
theorem ggX6_refutesWithTwo_X6_usefulLast_0 : GoodIn wsX6_refutesWithTwo wsX6_usefulLast_r1 := goodIn_r _ [8, 2, 9, 10, 11, 12, 13, 14, 15, 16, 6, 17, 18, 19, 20, 21, 22, 23, 24, 25, 26, 27, 28, 29] (by decide +kernel) (by decide +kernel)
set_option maxRecDepth 20000 in
theorem ggX6_refutesWithTwo_X6_usefulLast_1 : GoodIn wsX6_refutesWithTwo wsX6_usefulLast_r2 := goodIn_r _ [30, 31, 32, 33] (by decide +kernel) (by decide +kernel)
set_option maxRecDepth 20000 in
theorem ggX6_refutesWithTwo_X6_usefulLast_2 : GoodIn wsX6_refutesWithTwo wsX60 := goodIn_r _ [50, 51, 52, 53, 54] (by decide +kernel) (by decide +kernel)
set_option maxRecDepth 20000 in
theorem ggX6_refutesWithTwo_X6_usefulLast_3 : GoodIn wsX6_refutesWithTwo wsX40 := goodIn_r _ [55, 56, 57, 58, 59, 60, 61, 62] (by decide +kernel) (by decide +kernel)
theorem ggX6_refutesWithTwo_X6_usefulLast : GoodIn wsX6_refutesWithTwo wsX6_usefulLast := goodIn_app ggX6_refutesWithTwo_X6_usefulLast_h (goodIn_app (goodIn_app (goodIn_app ggX6_refutesWithTwo_X6_usefulLast_0 ggX6_refutesWithTwo_X6_usefulLast_1) ggX6_refutesWithTwo_X6_usefulLast_2) ggX6_refutesWithTwo_X6_usefulLast_3)
set_option maxRecDepth 20000 in
theorem gX6_refutesWithTwo_X6_usefulLast : GoodIn wsX6_refutesWithTwo (wsV RX6 44 RX6 yX6_usefulLast wsX6_usefulLast) := goodIn_app (goodIn_of _ (by decide +kernel)) ggX6_refutesWithTwo_X6_usefulLast
set_option maxRecDepth 20000 in
theorem ggX6_refutesWithTwo_X9_has : GoodIn wsX6_refutesWithTwo wsX9_has := goodIn_r _ [22] (by decide +kernel) (by decide +kernel)
set_option maxRecDepth 20000 in
theorem gX6_refutesWithTwo_X9_has_n48 : GoodIn wsX6_refutesWithTwo (wsX9_has) := ggX6_refutesWithTwo_X9_has
set_option maxRecDepth 20000 in
theorem ggX6_refutesWithTwo_X6_refutesBefore_h : GoodIn wsX6_refutesWithTwo [Cond.code yX6_refutesBefore cX6_refutesBefore 7 (some .boolean)] := goodIn_r _ [37] (by decide +kernel) (by decide +kernel)
set_option maxRecDepth 20000 in
theorem ggX6_refutesWithTwo_X6_refutesBefore_0 : GoodIn wsX6_refutesWithTwo wsX6_refutesBefore_r1 := goodIn_r _ [38, 39, 40, 6, 41, 8, 42, 43, 44, 45, 19, 18, 32, 21, 33, 20, 22, 46, 47, 48, 49, 23, 24, 25] (by decide +kernel) (by decide +kernel)
set_option maxRecDepth 20000 in
theorem ggX6_refutesWithTwo_X6_refutesBefore_1 : GoodIn wsX6_refutesWithTwo wsX6_refutesBefore_r2 := goodIn_r _ [26, 27, 28, 29, 12, 30, 31, 15, 16, 17] (by decide +kernel) (by decide +kernel)
set_option maxRecDepth 20000 in
theorem ggX6_refutesWithTwo_X6_refutesBefore_2 : GoodIn wsX6_refutesWithTwo wsX60 := goodIn_r _ [50, 51, 52, 53, 54] (by decide +kernel) (by decide +kernel)
set_option maxRecDepth 20000 in
theorem ggX6_refutesWithTwo_X6_refutesBefore_3 : GoodIn wsX6_refutesWithTwo wsX40 := goodIn_r _ [55, 56, 57, 58, 59, 60, 61, 62] (by decide +kernel) (by decide +kernel)
theorem ggX6_refutesWithTwo_X6_refutesBefore : GoodIn wsX6_refutesWithTwo wsX6_refutesBefore := goodIn_app ggX6_refutesWithTwo_X6_refutesBefore_h (goodIn_app (goodIn_app (goodIn_app ggX6_refutesWithTwo_X6_refutesBefore_0 ggX6_refutesWithTwo_X6_refutesBefore_1) ggX6_refutesWithTwo_X6_refutesBefore_2) ggX6_refutesWithTwo_X6_refutesBefore_3)
set_option maxRecDepth 20000 in
theorem gX6_refutesWithTwo_X6_refutesBefore : GoodIn wsX6_refutesWithTwo (wsV RX6 52 RX6 yX6_refutesBefore wsX6_refutesBefore) := goodIn_app (goodIn_of _ (by decide +kernel)) ggX6_refutesWithTwo_X6_refutesBefore
theorem dX6_refutesWithTwo_0 : decode cX6_refutesWithTwo 0 = .ok (.aload_n 0, 1) := by decide +kernel
theorem dX6_refutesWithTwo_1 : decode cX6_refutesWithTwo 1 = .ok (.iload_n 1, 1) := by decide +kernel
theorem dX6_refutesWithTwo_2 : decode cX6_refutesWithTwo 2 = .ok (.invokevirtual 44, 3) := by decide +kernel
theorem dX6_refutesWithTwo_5 : decode cX6_refutesWithTwo 5 = .ok (.istore_n 3, 1) := by decide +kernel
theorem dX6_refutesWithTwo_6 : decode cX6_refutesWithTwo 6 = .ok (.iconst 0, 1) := by decide +kernel
theorem dX6_refutesWithTwo_7 : decode cX6_refutesWithTwo 7 = .ok (.istore 4, 2) := by decide +kernel
theorem dX6_refutesWithTwo_9 : decode cX6_refutesWithTwo 9 = .ok (.iload 4, 2) := by decide +kernel
theorem dX6_refutesWithTwo_11 : decode cX6_refutesWithTwo 11 = .ok (.bipush 16, 2) := by decide +kernel
theorem dX6_refutesWithTwo_13 : decode cX6_refutesWithTwo 13 = .ok (.if_icmp .ge 41, 3) := by decide +kernel
theorem dX6_refutesWithTwo_16 : decode cX6_refutesWithTwo 16 = .ok (.iload_n 3, 1) := by decide +kernel
theorem dX6_refutesWithTwo_17 : decode cX6_refutesWithTwo 17 = .ok (.iload 4, 2) := by decide +kernel
theorem dX6_refutesWithTwo_19 : decode cX6_refutesWithTwo 19 = .ok (.invokestatic 48, 3) := by decide +kernel
theorem dX6_refutesWithTwo_22 : decode cX6_refutesWithTwo 22 = .ok (.ifCond .eq 26, 3) := by decide +kernel
theorem dX6_refutesWithTwo_25 : decode cX6_refutesWithTwo 25 = .ok (.aload_n 0, 1) := by decide +kernel
theorem dX6_refutesWithTwo_26 : decode cX6_refutesWithTwo 26 = .ok (.aload_n 0, 1) := by decide +kernel
theorem dX6_refutesWithTwo_27 : decode cX6_refutesWithTwo 27 = .ok (.getfield 25, 3) := by decide +kernel
theorem dX6_refutesWithTwo_30 : decode cX6_refutesWithTwo 30 = .ok (.aload_n 0, 1) := by decide +kernel
theorem dX6_refutesWithTwo_31 : decode cX6_refutesWithTwo 31 = .ok (.getfield 22, 3) := by decide +kernel
theorem dX6_refutesWithTwo_34 : decode cX6_refutesWithTwo 34 = .ok (.iload 4, 2) := by decide +kernel
theorem dX6_refutesWithTwo_36 : decode cX6_refutesWithTwo 36 = .ok (.iload 4, 2) := by decide +kernel
theorem dX6_refutesWithTwo_38 : decode cX6_refutesWithTwo 38 = .ok (.iload_n 1, 1) := by decide +kernel
theorem dX6_refutesWithTwo_39 : decode cX6_refutesWithTwo 39 = .ok (.iload_n 2, 1) := by decide +kernel
theorem dX6_refutesWithTwo_40 : decode cX6_refutesWithTwo 40 = .ok (.invokevirtual 52, 3) := by decide +kernel
theorem dX6_refutesWithTwo_43 : decode cX6_refutesWithTwo 43 = .ok (.ifCond .eq 5, 3) := by decide +kernel
theorem dX6_refutesWithTwo_46 : decode cX6_refutesWithTwo 46 = .ok (.iconst 1, 1) := by decide +kernel
theorem dX6_refutesWithTwo_47 : decode cX6_refutesWithTwo 47 = .ok (.ireturn, 1) := by decide +kernel
theorem dX6_refutesWithTwo_48 : decode cX6_refutesWithTwo 48 = .ok (.iinc 4 1, 3) := by decide +kernel
theorem dX6_refutesWithTwo_51 : decode cX6_refutesWithTwo 51 = .ok (.goto (-42), 3) := by decide +kernel
theorem dX6_refutesWithTwo_54 : decode cX6_refutesWithTwo 54 = .ok (.iconst 0, 1) := by decide +kernel
theorem dX6_refutesWithTwo_55 : decode cX6_refutesWithTwo 55 = .ok (.ireturn, 1) := by decide +kernel
set_option maxRecDepth 20000 in
theorem ggX6_refutesWithThree_X6_usefulLast_h : GoodIn wsX6_refutesWithThree [Cond.code yX6_usefulLast cX6_usefulLast 2 (some .int)] := goodIn_r _ [5] (by decide +kernel) (by decide +kernel)
set_option maxRecDepth 20000 in
theorem ggX6_refutesWithThree_X6_usefulLast_0 : GoodIn wsX6_refutesWithThree wsX6_usefulLast_r1 := goodIn_r _ [6, 7, 8, 9, 10, 11, 12, 13, 14, 15, 4, 16, 17, 18, 19, 20, 21, 22, 23, 24, 25, 26, 27, 28] (by decide +kernel) (by decide +kernel)
set_option maxRecDepth 20000 in
theorem ggX6_refutesWithThree_X6_usefulLast_1 : GoodIn wsX6_refutesWithThree wsX6_usefulLast_r2 := goodIn_r _ [29, 30, 31, 32] (by decide +kernel) (by decide +kernel)
set_option maxRecDepth 20000 in
theorem ggX6_refutesWithThree_X6_usefulLast_2 : GoodIn wsX6_refutesWithThree wsX60 := goodIn_r _ [59, 60, 61, 62, 63] (by decide +kernel) (by decide +kernel)
set_option maxRecDepth 20000 in
theorem ggX6_refutesWithThree_X6_usefulLast_3 : GoodIn wsX6_refutesWithThree wsX40 := goodIn_r _ [64, 65, 66, 67, 68, 69, 70, 71] (by decide +kernel) (by decide +kernel)
theorem ggX6_refutesWithThree_X6_usefulLast : GoodIn wsX6_refutesWithThree wsX6_usefulLast := goodIn_app ggX6_refutesWithThree_X6_usefulLast_h (goodIn_app (goodIn_app (goodIn_app ggX6_refutesWithThree_X6_usefulLast_0 ggX6_refutesWithThree_X6_usefulLast_1) ggX6_refutesWithThree_X6_usefulLast_2) ggX6_refutesWithThree_X6_usefulLast_3)
set_option maxRecDepth 20000 in
theorem gX6_refutesWithThree_X6_usefulLast : GoodIn wsX6_refutesWithThree (wsV RX6 44 RX6 yX6_usefulLast wsX6_usefulLast) := goodIn_app (goodIn_of _ (by decide +kernel)) ggX6_refutesWithThree_X6_usefulLast
set_option maxRecDepth 20000 in
theorem ggX6_refutesWithThree_X9_has : GoodIn wsX6_refutesWithThree wsX9_has := goodIn_r _ [21] (by decide +kernel) (by decide +kernel)
set_option maxRecDepth 20000 in
theorem gX6_refutesWithThree_X9_has_n48 : GoodIn wsX6_refutesWithThree (wsX9_has) := ggX6_refutesWithThree_X9_has
set_option maxRecDepth 20000 in
theorem ggX6_refutesWithThree_X6_refutesForked_h : GoodIn wsX6_refutesWithThree [Cond.code yX6_refutesForked cX6_refutesForked 6 (some .boolean)] := goodIn_r _ [36] (by decide +kernel) (by decide +kernel)
set_option maxRecDepth 20000 in
theorem ggX6_refutesWithThree_X6_refutesForked_0 : GoodIn wsX6_refutesWithThree wsX6_refutesForked_r1 := goodIn_r _ [37, 7, 19, 20, 21, 38, 39, 40, 4, 41, 42, 43, 44, 45, 6, 46, 47, 48, 49, 18, 17, 31, 32, 50] (by decide +kernel) (by decide +kernel)
set_option maxRecDepth 20000 in
theorem ggX6_refutesWithThree_X6_refutesForked_1 : GoodIn wsX6_refutesWithThree wsX6_refutesForked_r2 := goodIn_r _ [51, 52, 53, 22, 23, 24, 25, 26, 27, 28, 11, 29, 30, 14, 15, 16] (by decide +kernel) (by decide +kernel)
set_option maxRecDepth 20000 in
theorem ggX6_refutesWithThree_X6_refutesForked_2 : GoodIn wsX6_refutesWithThree wsX60 := goodIn_r _ [59, 60, 61, 62, 63] (by decide +kernel) (by decide +kernel)
set_option maxRecDepth 20000 in
theorem ggX6_refutesWithThree_X6_refutesForked_3 : GoodIn wsX6_refutesWithThree wsX40 := goodIn_r _ [64, 65, 66, 67, 68, 69, 70, 71] (by decide +kernel) (by decide +kernel)
theorem ggX6_refutesWithThree_X6_refutesForked : GoodIn wsX6_refutesWithThree wsX6_refutesForked := goodIn_app ggX6_refutesWithThree_X6_refutesForked_h (goodIn_app (goodIn_app (goodIn_app ggX6_refutesWithThree_X6_refutesForked_0 ggX6_refutesWithThree_X6_refutesForked_1) ggX6_refutesWithThree_X6_refutesForked_2) ggX6_refutesWithThree_X6_refutesForked_3)
set_option maxRecDepth 20000 in
theorem gX6_refutesWithThree_X6_refutesForked : GoodIn wsX6_refutesWithThree (wsV RX6 56 RX6 yX6_refutesForked wsX6_refutesForked) := goodIn_app (goodIn_of _ (by decide +kernel)) ggX6_refutesWithThree_X6_refutesForked
set_option maxRecDepth 20000 in
theorem ggX6_refutesWithThree_X6_refutesInChain_h : GoodIn wsX6_refutesWithThree [Cond.code yX6_refutesInChain cX6_refutesInChain 6 (some .boolean)] := goodIn_r _ [57] (by decide +kernel) (by decide +kernel)
set_option maxRecDepth 20000 in
theorem ggX6_refutesWithThree_X6_refutesInChain_0 : GoodIn wsX6_refutesWithThree wsX6_refutesInChain_r1 := goodIn_r _ [58, 7, 37, 42, 43, 44, 4, 45, 6, 46, 47, 48, 49, 18, 17, 31, 20, 32, 19, 21, 14, 15, 16, 22] (by decide +kernel) (by decide +kernel)
set_option maxRecDepth 20000 in
theorem ggX6_refutesWithThree_X6_refutesInChain_1 : GoodIn wsX6_refutesWithThree wsX6_refutesInChain_r2 := goodIn_r _ [23, 24, 25, 26, 27, 28, 11, 29, 30, 38, 39, 40, 41, 50, 51, 52, 53] (by decide +kernel) (by decide +kernel)
set_option maxRecDepth 20000 in
theorem ggX6_refutesWithThree_X6_refutesInChain_2 : GoodIn wsX6_refutesWithThree wsX60 := goodIn_r _ [59, 60, 61, 62, 63] (by decide +kernel) (by decide +kernel)
set_option maxRecDepth 20000 in
theorem ggX6_refutesWithThree_X6_refutesInChain_3 : GoodIn wsX6_refutesWithThree wsX40 := goodIn_r _ [64, 65, 66, 67, 68, 69, 70, 71] (by decide +kernel) (by decide +kernel)
theorem ggX6_refutesWithThree_X6_refutesInChain : GoodIn wsX6_refutesWithThree wsX6_refutesInChain := goodIn_app ggX6_refutesWithThree_X6_refutesInChain_h (goodIn_app (goodIn_app (goodIn_app ggX6_refutesWithThree_X6_refutesInChain_0 ggX6_refutesWithThree_X6_refutesInChain_1) ggX6_refutesWithThree_X6_refutesInChain_2) ggX6_refutesWithThree_X6_refutesInChain_3)
set_option maxRecDepth 20000 in
theorem gX6_refutesWithThree_X6_refutesInChain : GoodIn wsX6_refutesWithThree (wsV RX6 60 RX6 yX6_refutesInChain wsX6_refutesInChain) := goodIn_app (goodIn_of _ (by decide +kernel)) ggX6_refutesWithThree_X6_refutesInChain
theorem dX6_refutesWithThree_0 : decode cX6_refutesWithThree 0 = .ok (.aload_n 0, 1) := by decide +kernel
theorem dX6_refutesWithThree_1 : decode cX6_refutesWithThree 1 = .ok (.iload_n 1, 1) := by decide +kernel
theorem dX6_refutesWithThree_2 : decode cX6_refutesWithThree 2 = .ok (.invokevirtual 44, 3) := by decide +kernel
theorem dX6_refutesWithThree_5 : decode cX6_refutesWithThree 5 = .ok (.istore_n 3, 1) := by decide +kernel
theorem dX6_refutesWithThree_6 : decode cX6_refutesWithThree 6 = .ok (.iconst 0, 1) := by decide +kernel
theorem dX6_refutesWithThree_7 : decode cX6_refutesWithThree 7 = .ok (.istore 4, 2) := by decide +kernel
theorem dX6_refutesWithThree_9 : decode cX6_refutesWithThree 9 = .ok (.iload 4, 2) := by decide +kernel
theorem dX6_refutesWithThree_11 : decode cX6_refutesWithThree 11 = .ok (.bipush 16, 2) := by decide +kernel
theorem dX6_refutesWithThree_13 : decode cX6_refutesWithThree 13 = .ok (.if_icmp .ge 43, 3) := by decide +kernel
theorem dX6_refutesWithThree_16 : decode cX6_refutesWithThree 16 = .ok (.iload_n 3, 1) := by decide +kernel
theorem dX6_refutesWithThree_17 : decode cX6_refutesWithThree 17 = .ok (.iload 4, 2) := by decide +kernel
theorem dX6_refutesWithThree_19 : decode cX6_refutesWithThree 19 = .ok (.invokestatic 48, 3) := by decide +kernel
theorem dX6_refutesWithThree_22 : decode cX6_refutesWithThree 22 = .ok (.ifCond .eq 28, 3) := by decide +kernel
theorem dX6_refutesWithThree_25 : decode cX6_refutesWithThree 25 = .ok (.aload_n 0, 1) := by decide +kernel
theorem dX6_refutesWithThree_26 : decode cX6_refutesWithThree 26 = .ok (.iload 4, 2) := by decide +kernel
theorem dX6_refutesWithThree_28 : decode cX6_refutesWithThree 28 = .ok (.iload_n 3, 1) := by decide +kernel
theorem dX6_refutesWithThree_29 : decode cX6_refutesWithThree 29 = .ok (.iload_n 1, 1) := by decide +kernel
theorem dX6_refutesWithThree_30 : decode cX6_refutesWithThree 30 = .ok (.iload_n 2, 1) := by decide +kernel
theorem dX6_refutesWithThree_31 : decode cX6_refutesWithThree 31 = .ok (.invokevirtual 56, 3) := by decide +kernel
theorem dX6_refutesWithThree_34 : decode cX6_refutesWithThree 34 = .ok (.ifCond .ne 14, 3) := by decide +kernel
theorem dX6_refutesWithThree_37 : decode cX6_refutesWithThree 37 = .ok (.aload_n 0, 1) := by decide +kernel
theorem dX6_refutesWithThree_38 : decode cX6_refutesWithThree 38 = .ok (.iload 4, 2) := by decide +kernel
theorem dX6_refutesWithThree_40 : decode cX6_refutesWithThree 40 = .ok (.iload_n 1, 1) := by decide +kernel
theorem dX6_refutesWithThree_41 : decode cX6_refutesWithThree 41 = .ok (.iload_n 2, 1) := by decide +kernel
theorem dX6_refutesWithThree_42 : decode cX6_refutesWithThree 42 = .ok (.invokevirtual 60, 3) := by decide +kernel
theorem dX6_refutesWithThree_45 : decode cX6_refutesWithThree 45 = .ok (.ifCond .eq 5, 3) := by decide +kernel
theorem dX6_refutesWithThree_48 : decode cX6_refutesWithThree 48 = .ok (.iconst 1, 1) := by decide +kernel
theorem dX6_refutesWithThree_49 : decode cX6_refutesWithThree 49 = .ok (.ireturn, 1) := by decide +kernel
theorem dX6_refutesWithThree_50 : decode cX6_refutesWithThree 50 = .ok (.iinc 4 1, 3) := by decide +kernel
theorem dX6_refutesWithThree_53 : decode cX6_refutesWithThree 53 = .ok (.goto (-44), 3) := by decide +kernel
theorem dX6_refutesWithThree_56 : decode cX6_refutesWithThree 56 = .ok (.iconst 0, 1) := by decide +kernel
theorem dX6_refutesWithThree_57 : decode cX6_refutesWithThree 57 = .ok (.ireturn, 1) := by decide +kernel
set_option maxRecDepth 20000 in
theorem ggX6_usefulLast_X4_usedFacts : GoodIn wsX6_usefulLast wsX4_usedFacts := goodIn_r _ [7, 8, 34, 35, 36, 37, 38, 39, 40, 41] (by decide +kernel) (by decide +kernel)
set_option maxRecDepth 20000 in
theorem gX6_usefulLast_X4_usedFacts : GoodIn wsX6_usefulLast (wsV RX6 64 RX4 yX4_usedFacts wsX4_usedFacts) := goodIn_app (goodIn_of _ (by decide +kernel)) ggX6_usefulLast_X4_usedFacts
set_option maxRecDepth 20000 in
theorem ggX6_usefulLast_X6_below : GoodIn wsX6_usefulLast wsX6_below := goodIn_r _ [12, 13, 14, 15, 16, 17] (by decide +kernel) (by decide +kernel)
set_option maxRecDepth 20000 in
theorem gX6_usefulLast_X6_below : GoodIn wsX6_usefulLast (va_wsS RX6 68 yX6_below wsX6_below) := goodIn_app (goodIn_of _ (by decide +kernel)) ggX6_usefulLast_X6_below
set_option maxRecDepth 20000 in
theorem ggX6_usefulLast_X6_supporting : GoodIn wsX6_usefulLast wsX6_supporting := goodIn_r _ [21, 13, 1, 15, 16, 17, 22, 23, 24, 6, 25, 26, 27, 28, 29, 30, 31, 32, 33, 34, 35, 36, 37, 38, 39, 40, 41] (by decide +kernel) (by decide +kernel)
set_option maxRecDepth 20000 in
theorem gX6_usefulLast_X6_supporting : GoodIn wsX6_usefulLast (wsV RX6 71 RX6 yX6_supporting wsX6_supporting) := goodIn_app (goodIn_of _ (by decide +kernel)) ggX6_usefulLast_X6_supporting
theorem dX6_usefulLast_0 : decode cX6_usefulLast 0 = .ok (.aload_n 0, 1) := by decide +kernel
theorem dX6_usefulLast_1 : decode cX6_usefulLast 1 = .ok (.getfield 12, 3) := by decide +kernel
theorem dX6_usefulLast_4 : decode cX6_usefulLast 4 = .ok (.invokevirtual 64, 3) := by decide +kernel
theorem dX6_usefulLast_7 : decode cX6_usefulLast 7 = .ok (.invokestatic 68, 3) := by decide +kernel
theorem dX6_usefulLast_10 : decode cX6_usefulLast 10 = .ok (.aload_n 0, 1) := by decide +kernel
theorem dX6_usefulLast_11 : decode cX6_usefulLast 11 = .ok (.aload_n 0, 1) := by decide +kernel
theorem dX6_usefulLast_12 : decode cX6_usefulLast 12 = .ok (.getfield 22, 3) := by decide +kernel
theorem dX6_usefulLast_15 : decode cX6_usefulLast 15 = .ok (.iload_n 1, 1) := by decide +kernel
theorem dX6_usefulLast_16 : decode cX6_usefulLast 16 = .ok (.invokevirtual 71, 3) := by decide +kernel
theorem dX6_usefulLast_19 : decode cX6_usefulLast 19 = .ok (.iand, 1) := by decide +kernel
theorem dX6_usefulLast_20 : decode cX6_usefulLast 20 = .ok (.ireturn, 1) := by decide +kernel
set_option maxRecDepth 20000 in
theorem ggX6_refutesForked_X9_has : GoodIn wsX6_refutesForked wsX9_has := goodIn_r _ [5] (by decide +kernel) (by decide +kernel)
set_option maxRecDepth 20000 in
theorem gX6_refutesForked_X9_has_n48 : GoodIn wsX6_refutesForked (wsX9_has) := ggX6_refutesForked_X9_has
set_option maxRecDepth 20000 in
theorem ggX6_refutesForked_X6_refutesBefore_h : GoodIn wsX6_refutesForked [Cond.code yX6_refutesBefore cX6_refutesBefore 7 (some .boolean)] := goodIn_r _ [10] (by decide +kernel) (by decide +kernel)
set_option maxRecDepth 20000 in
theorem ggX6_refutesForked_X6_refutesBefore_0 : GoodIn wsX6_refutesForked wsX6_refutesBefore_r1 := goodIn_r _ [11, 12, 13, 9, 14, 15, 16, 17, 18, 19, 20, 21, 22, 4, 23, 3, 5, 24, 25, 26, 27, 28, 29, 30] (by decide +kernel) (by decide +kernel)
set_option maxRecDepth 20000 in
theorem ggX6_refutesForked_X6_refutesBefore_1 : GoodIn wsX6_refutesForked wsX6_refutesBefore_r2 := goodIn_r _ [31, 32, 33, 34, 35, 36, 37, 38, 39, 40] (by decide +kernel) (by decide +kernel)
set_option maxRecDepth 20000 in
theorem ggX6_refutesForked_X6_refutesBefore_2 : GoodIn wsX6_refutesForked wsX60 := goodIn_r _ [41, 42, 43, 44, 45] (by decide +kernel) (by decide +kernel)
set_option maxRecDepth 20000 in
theorem ggX6_refutesForked_X6_refutesBefore_3 : GoodIn wsX6_refutesForked wsX40 := goodIn_r _ [46, 47, 48, 49, 50, 51, 52, 53] (by decide +kernel) (by decide +kernel)
theorem ggX6_refutesForked_X6_refutesBefore : GoodIn wsX6_refutesForked wsX6_refutesBefore := goodIn_app ggX6_refutesForked_X6_refutesBefore_h (goodIn_app (goodIn_app (goodIn_app ggX6_refutesForked_X6_refutesBefore_0 ggX6_refutesForked_X6_refutesBefore_1) ggX6_refutesForked_X6_refutesBefore_2) ggX6_refutesForked_X6_refutesBefore_3)
set_option maxRecDepth 20000 in
theorem gX6_refutesForked_X6_refutesBefore : GoodIn wsX6_refutesForked (wsV RX6 52 RX6 yX6_refutesBefore wsX6_refutesBefore) := goodIn_app (goodIn_of _ (by decide +kernel)) ggX6_refutesForked_X6_refutesBefore
theorem dX6_refutesForked_0 : decode cX6_refutesForked 0 = .ok (.iconst 0, 1) := by decide +kernel
theorem dX6_refutesForked_1 : decode cX6_refutesForked 1 = .ok (.istore 5, 2) := by decide +kernel
theorem dX6_refutesForked_3 : decode cX6_refutesForked 3 = .ok (.iload 5, 2) := by decide +kernel
theorem dX6_refutesForked_5 : decode cX6_refutesForked 5 = .ok (.iload_n 1, 1) := by decide +kernel
theorem dX6_refutesForked_6 : decode cX6_refutesForked 6 = .ok (.if_icmp .ge 41, 3) := by decide +kernel
theorem dX6_refutesForked_9 : decode cX6_refutesForked 9 = .ok (.iload_n 2, 1) := by decide +kernel
theorem dX6_refutesForked_10 : decode cX6_refutesForked 10 = .ok (.iload 5, 2) := by decide +kernel
theorem dX6_refutesForked_12 : decode cX6_refutesForked 12 = .ok (.invokestatic 48, 3) := by decide +kernel
theorem dX6_refutesForked_15 : decode cX6_refutesForked 15 = .ok (.ifCond .eq 26, 3) := by decide +kernel
theorem dX6_refutesForked_18 : decode cX6_refutesForked 18 = .ok (.aload_n 0, 1) := by decide +kernel
theorem dX6_refutesForked_19 : decode cX6_refutesForked 19 = .ok (.aload_n 0, 1) := by decide +kernel
theorem dX6_refutesForked_20 : decode cX6_refutesForked 20 = .ok (.getfield 28, 3) := by decide +kernel
theorem dX6_refutesForked_23 : decode cX6_refutesForked 23 = .ok (.aload_n 0, 1) := by decide +kernel
theorem dX6_refutesForked_24 : decode cX6_refutesForked 24 = .ok (.getfield 22, 3) := by decide +kernel
theorem dX6_refutesForked_27 : decode cX6_refutesForked 27 = .ok (.iload 5, 2) := by decide +kernel
theorem dX6_refutesForked_29 : decode cX6_refutesForked 29 = .ok (.iload_n 1, 1) := by decide +kernel
theorem dX6_refutesForked_30 : decode cX6_refutesForked 30 = .ok (.iload_n 3, 1) := by decide +kernel
theorem dX6_refutesForked_31 : decode cX6_refutesForked 31 = .ok (.iload 4, 2) := by decide +kernel
theorem dX6_refutesForked_33 : decode cX6_refutesForked 33 = .ok (.invokevirtual 52, 3) := by decide +kernel
theorem dX6_refutesForked_36 : decode cX6_refutesForked 36 = .ok (.ifCond .eq 5, 3) := by decide +kernel
theorem dX6_refutesForked_39 : decode cX6_refutesForked 39 = .ok (.iconst 1, 1) := by decide +kernel
theorem dX6_refutesForked_40 : decode cX6_refutesForked 40 = .ok (.ireturn, 1) := by decide +kernel
theorem dX6_refutesForked_41 : decode cX6_refutesForked 41 = .ok (.iinc 5 1, 3) := by decide +kernel
theorem dX6_refutesForked_44 : decode cX6_refutesForked 44 = .ok (.goto (-41), 3) := by decide +kernel
theorem dX6_refutesForked_47 : decode cX6_refutesForked 47 = .ok (.iconst 0, 1) := by decide +kernel
theorem dX6_refutesForked_48 : decode cX6_refutesForked 48 = .ok (.ireturn, 1) := by decide +kernel
set_option maxRecDepth 20000 in
theorem ggX6_refutesInChain_X6_fill : GoodIn wsX6_refutesInChain wsX6_fill := goodIn_r _ [8, 9, 10, 11, 12, 13, 14, 15, 16, 17, 18, 19, 20, 42, 43, 44, 45, 46, 47, 48, 49, 50, 51, 52, 53, 54] (by decide +kernel) (by decide +kernel)
set_option maxRecDepth 20000 in
theorem gX6_refutesInChain_X6_fill : GoodIn wsX6_refutesInChain (wsV RX6 32 RX6 yX6_fill wsX6_fill) := goodIn_app (goodIn_of _ (by decide +kernel)) ggX6_refutesInChain_X6_fill
set_option maxRecDepth 20000 in
theorem ggX6_refutesInChain_X6_below : GoodIn wsX6_refutesInChain wsX6_below := goodIn_r _ [23, 15, 14, 19, 17, 20] (by decide +kernel) (by decide +kernel)
set_option maxRecDepth 20000 in
theorem gX6_refutesInChain_X6_below : GoodIn wsX6_refutesInChain (va_wsS RX6 68 yX6_below wsX6_below) := goodIn_app (goodIn_of _ (by decide +kernel)) ggX6_refutesInChain_X6_below
set_option maxRecDepth 20000 in
theorem ggX6_refutesInChain_X6_supporting : GoodIn wsX6_refutesInChain wsX6_supporting := goodIn_r _ [27, 15, 9, 19, 17, 20, 28, 29, 30, 31, 32, 33, 16, 18, 42, 43, 44, 45, 46, 47, 48, 49, 50, 51, 52, 53, 54] (by decide +kernel) (by decide +kernel)
set_option maxRecDepth 20000 in
theorem gX6_refutesInChain_X6_supporting : GoodIn wsX6_refutesInChain (wsV RX6 71 RX6 yX6_supporting wsX6_supporting) := goodIn_app (goodIn_of _ (by decide +kernel)) ggX6_refutesInChain_X6_supporting
set_option maxRecDepth 20000 in
theorem ggX6_refutesInChain_X9_has : GoodIn wsX6_refutesInChain wsX9_has := goodIn_r _ [20] (by decide +kernel) (by decide +kernel)
set_option maxRecDepth 20000 in
theorem gX6_refutesInChain_X9_has_n48 : GoodIn wsX6_refutesInChain (wsX9_has) := ggX6_refutesInChain_X9_has
set_option maxRecDepth 20000 in
theorem ggX6_refutesInChain_X6_refutesBefore_h : GoodIn wsX6_refutesInChain [Cond.code yX6_refutesBefore cX6_refutesBefore 7 (some .boolean)] := goodIn_r _ [37] (by decide +kernel) (by decide +kernel)
set_option maxRecDepth 20000 in
theorem ggX6_refutesInChain_X6_refutesBefore_0 : GoodIn wsX6_refutesInChain wsX6_refutesBefore_r1 := goodIn_r _ [4, 5, 6, 7, 8, 9, 10, 11, 12, 13, 14, 15, 16, 17, 18, 19, 20, 38, 39, 40, 41, 24, 25, 26] (by decide +kernel) (by decide +kernel)
set_option maxRecDepth 20000 in
theorem ggX6_refutesInChain_X6_refutesBefore_1 : GoodIn wsX6_refutesInChain wsX6_refutesBefore_r2 := goodIn_r _ [27, 28, 29, 30, 31, 32, 33, 21, 22, 23] (by decide +kernel) (by decide +kernel)
set_option maxRecDepth 20000 in
theorem ggX6_refutesInChain_X6_refutesBefore_2 : GoodIn wsX6_refutesInChain wsX60 := goodIn_r _ [42, 43, 44, 45, 46] (by decide +kernel) (by decide +kernel)
set_option maxRecDepth 20000 in
theorem ggX6_refutesInChain_X6_refutesBefore_3 : GoodIn wsX6_refutesInChain wsX40 := goodIn_r _ [47, 48, 49, 50, 51, 52, 53, 54] (by decide +kernel) (by decide +kernel)
theorem ggX6_refutesInChain_X6_refutesBefore : GoodIn wsX6_refutesInChain wsX6_refutesBefore := goodIn_app ggX6_refutesInChain_X6_refutesBefore_h (goodIn_app (goodIn_app (goodIn_app ggX6_refutesInChain_X6_refutesBefore_0 ggX6_refutesInChain_X6_refutesBefore_1) ggX6_refutesInChain_X6_refutesBefore_2) ggX6_refutesInChain_X6_refutesBefore_3)
set_option maxRecDepth 20000 in
theorem gX6_refutesInChain_X6_refutesBefore : GoodIn wsX6_refutesInChain (wsV RX6 52 RX6 yX6_refutesBefore wsX6_refutesBefore) := goodIn_app (goodIn_of _ (by decide +kernel)) ggX6_refutesInChain_X6_refutesBefore
theorem dX6_refutesInChain_0 : decode cX6_refutesInChain 0 = .ok (.aload_n 0, 1) := by decide +kernel
theorem dX6_refutesInChain_1 : decode cX6_refutesInChain 1 = .ok (.aload_n 0, 1) := by decide +kernel
theorem dX6_refutesInChain_2 : decode cX6_refutesInChain 2 = .ok (.getfield 25, 3) := by decide +kernel
theorem dX6_refutesInChain_5 : decode cX6_refutesInChain 5 = .ok (.aload_n 0, 1) := by decide +kernel
theorem dX6_refutesInChain_6 : decode cX6_refutesInChain 6 = .ok (.getfield 22, 3) := by decide +kernel
theorem dX6_refutesInChain_9 : decode cX6_refutesInChain 9 = .ok (.iload_n 1, 1) := by decide +kernel
theorem dX6_refutesInChain_10 : decode cX6_refutesInChain 10 = .ok (.iload_n 1, 1) := by decide +kernel
theorem dX6_refutesInChain_11 : decode cX6_refutesInChain 11 = .ok (.invokevirtual 32, 3) := by decide +kernel
theorem dX6_refutesInChain_14 : decode cX6_refutesInChain 14 = .ok (.iload_n 1, 1) := by decide +kernel
theorem dX6_refutesInChain_15 : decode cX6_refutesInChain 15 = .ok (.invokestatic 68, 3) := by decide +kernel
theorem dX6_refutesInChain_18 : decode cX6_refutesInChain 18 = .ok (.aload_n 0, 1) := by decide +kernel
theorem dX6_refutesInChain_19 : decode cX6_refutesInChain 19 = .ok (.aload_n 0, 1) := by decide +kernel
theorem dX6_refutesInChain_20 : decode cX6_refutesInChain 20 = .ok (.getfield 25, 3) := by decide +kernel
theorem dX6_refutesInChain_23 : decode cX6_refutesInChain 23 = .ok (.iload_n 2, 1) := by decide +kernel
theorem dX6_refutesInChain_24 : decode cX6_refutesInChain 24 = .ok (.invokevirtual 71, 3) := by decide +kernel
theorem dX6_refutesInChain_27 : decode cX6_refutesInChain 27 = .ok (.iand, 1) := by decide +kernel
theorem dX6_refutesInChain_28 : decode cX6_refutesInChain 28 = .ok (.istore 4, 2) := by decide +kernel
theorem dX6_refutesInChain_30 : decode cX6_refutesInChain 30 = .ok (.iconst 0, 1) := by decide +kernel
theorem dX6_refutesInChain_31 : decode cX6_refutesInChain 31 = .ok (.istore 5, 2) := by decide +kernel
theorem dX6_refutesInChain_33 : decode cX6_refutesInChain 33 = .ok (.iload 5, 2) := by decide +kernel
theorem dX6_refutesInChain_35 : decode cX6_refutesInChain 35 = .ok (.iload_n 1, 1) := by decide +kernel
theorem dX6_refutesInChain_36 : decode cX6_refutesInChain 36 = .ok (.if_icmp .ge 42, 3) := by decide +kernel
theorem dX6_refutesInChain_39 : decode cX6_refutesInChain 39 = .ok (.iload 4, 2) := by decide +kernel
theorem dX6_refutesInChain_41 : decode cX6_refutesInChain 41 = .ok (.iload 5, 2) := by decide +kernel
theorem dX6_refutesInChain_43 : decode cX6_refutesInChain 43 = .ok (.invokestatic 48, 3) := by decide +kernel
theorem dX6_refutesInChain_46 : decode cX6_refutesInChain 46 = .ok (.ifCond .eq 26, 3) := by decide +kernel
theorem dX6_refutesInChain_49 : decode cX6_refutesInChain 49 = .ok (.aload_n 0, 1) := by decide +kernel
theorem dX6_refutesInChain_50 : decode cX6_refutesInChain 50 = .ok (.aload_n 0, 1) := by decide +kernel
theorem dX6_refutesInChain_51 : decode cX6_refutesInChain 51 = .ok (.getfield 28, 3) := by decide +kernel
theorem dX6_refutesInChain_54 : decode cX6_refutesInChain 54 = .ok (.aload_n 0, 1) := by decide +kernel
theorem dX6_refutesInChain_55 : decode cX6_refutesInChain 55 = .ok (.getfield 25, 3) := by decide +kernel
theorem dX6_refutesInChain_58 : decode cX6_refutesInChain 58 = .ok (.iload 5, 2) := by decide +kernel
theorem dX6_refutesInChain_60 : decode cX6_refutesInChain 60 = .ok (.iload 5, 2) := by decide +kernel
theorem dX6_refutesInChain_62 : decode cX6_refutesInChain 62 = .ok (.iload_n 2, 1) := by decide +kernel
theorem dX6_refutesInChain_63 : decode cX6_refutesInChain 63 = .ok (.iload_n 3, 1) := by decide +kernel
theorem dX6_refutesInChain_64 : decode cX6_refutesInChain 64 = .ok (.invokevirtual 52, 3) := by decide +kernel
theorem dX6_refutesInChain_67 : decode cX6_refutesInChain 67 = .ok (.ifCond .eq 5, 3) := by decide +kernel
theorem dX6_refutesInChain_70 : decode cX6_refutesInChain 70 = .ok (.iconst 1, 1) := by decide +kernel
theorem dX6_refutesInChain_71 : decode cX6_refutesInChain 71 = .ok (.ireturn, 1) := by decide +kernel
theorem dX6_refutesInChain_72 : decode cX6_refutesInChain 72 = .ok (.iinc 5 1, 3) := by decide +kernel
theorem dX6_refutesInChain_75 : decode cX6_refutesInChain 75 = .ok (.goto (-42), 3) := by decide +kernel
theorem dX6_refutesInChain_78 : decode cX6_refutesInChain 78 = .ok (.iconst 0, 1) := by decide +kernel
theorem dX6_refutesInChain_79 : decode cX6_refutesInChain 79 = .ok (.ireturn, 1) := by decide +kernel
set_option maxRecDepth 20000 in
theorem ggX6_refutesBefore_X6_fill : GoodIn wsX6_refutesBefore wsX6_fill := goodIn_r _ [5, 6, 7, 8, 9, 10, 11, 12, 13, 14, 15, 16, 17, 35, 36, 37, 38, 39, 40, 41, 42, 43, 44, 45, 46, 47] (by decide +kernel) (by decide +kernel)
set_option maxRecDepth 20000 in
theorem gX6_refutesBefore_X6_fill : GoodIn wsX6_refutesBefore (wsV RX6 32 RX6 yX6_fill wsX6_fill) := goodIn_app (goodIn_of _ (by decide +kernel)) ggX6_refutesBefore_X6_fill
set_option maxRecDepth 20000 in
theorem ggX6_refutesBefore_X6_refuting : GoodIn wsX6_refutesBefore wsX6_refuting := goodIn_r _ [21, 6, 22, 23, 24, 4, 25, 12, 16, 14, 17, 26, 27, 28, 29, 30, 31, 13, 15, 35, 36, 37, 38, 39, 40, 41, 42, 43, 44, 45, 46, 47] (by decide +kernel) (by decide +kernel)
set_option maxRecDepth 20000 in
theorem gX6_refutesBefore_X6_refuting : GoodIn wsX6_refutesBefore (wsV RX6 40 RX6 yX6_refuting wsX6_refuting) := goodIn_app (goodIn_of _ (by decide +kernel)) ggX6_refutesBefore_X6_refuting
set_option maxRecDepth 20000 in
theorem ggX6_refutesBefore_X6_below : GoodIn wsX6_refutesBefore wsX6_below := goodIn_r _ [34, 12, 11, 16, 14, 17] (by decide +kernel) (by decide +kernel)
set_option maxRecDepth 20000 in
theorem gX6_refutesBefore_X6_below : GoodIn wsX6_refutesBefore (va_wsS RX6 68 yX6_below wsX6_below) := goodIn_app (goodIn_of _ (by decide +kernel)) ggX6_refutesBefore_X6_below
theorem dX6_refutesBefore_0 : decode cX6_refutesBefore 0 = .ok (.aload_n 0, 1) := by decide +kernel
theorem dX6_refutesBefore_1 : decode cX6_refutesBefore 1 = .ok (.aload_n 1, 1) := by decide +kernel
theorem dX6_refutesBefore_2 : decode cX6_refutesBefore 2 = .ok (.aload_n 2, 1) := by decide +kernel
theorem dX6_refutesBefore_3 : decode cX6_refutesBefore 3 = .ok (.iload_n 3, 1) := by decide +kernel
theorem dX6_refutesBefore_4 : decode cX6_refutesBefore 4 = .ok (.iload 4, 2) := by decide +kernel
theorem dX6_refutesBefore_6 : decode cX6_refutesBefore 6 = .ok (.invokevirtual 32, 3) := by decide +kernel
theorem dX6_refutesBefore_9 : decode cX6_refutesBefore 9 = .ok (.aload_n 0, 1) := by decide +kernel
theorem dX6_refutesBefore_10 : decode cX6_refutesBefore 10 = .ok (.aload_n 1, 1) := by decide +kernel
theorem dX6_refutesBefore_11 : decode cX6_refutesBefore 11 = .ok (.iload 5, 2) := by decide +kernel
theorem dX6_refutesBefore_13 : decode cX6_refutesBefore 13 = .ok (.iload 6, 2) := by decide +kernel
theorem dX6_refutesBefore_15 : decode cX6_refutesBefore 15 = .ok (.invokevirtual 40, 3) := by decide +kernel
theorem dX6_refutesBefore_18 : decode cX6_refutesBefore 18 = .ok (.iload_n 3, 1) := by decide +kernel
theorem dX6_refutesBefore_19 : decode cX6_refutesBefore 19 = .ok (.iload 4, 2) := by decide +kernel
theorem dX6_refutesBefore_21 : decode cX6_refutesBefore 21 = .ok (.iand, 1) := by decide +kernel
theorem dX6_refutesBefore_22 : decode cX6_refutesBefore 22 = .ok (.invokestatic 68, 3) := by decide +kernel
theorem dX6_refutesBefore_25 : decode cX6_refutesBefore 25 = .ok (.iand, 1) := by decide +kernel
theorem dX6_refutesBefore_26 : decode cX6_refutesBefore 26 = .ok (.ifCond .eq 7, 3) := by decide +kernel
theorem dX6_refutesBefore_29 : decode cX6_refutesBefore 29 = .ok (.iconst 1, 1) := by decide +kernel
theorem dX6_refutesBefore_30 : decode cX6_refutesBefore 30 = .ok (.goto 4, 3) := by decide +kernel
theorem dX6_refutesBefore_33 : decode cX6_refutesBefore 33 = .ok (.iconst 0, 1) := by decide +kernel
theorem dX6_refutesBefore_34 : decode cX6_refutesBefore 34 = .ok (.ireturn, 1) := by decide +kernel
set_option maxRecDepth 20000 in
theorem ggX6_fill_X9_at : GoodIn wsX6_fill wsX9_at := goodIn_r _ [10] (by decide +kernel) (by decide +kernel)
set_option maxRecDepth 20000 in
theorem gX6_fill_X9_at_n36 : GoodIn wsX6_fill (wsX9_at) := ggX6_fill_X9_at
set_option maxRecDepth 20000 in
theorem ggX6_fill_X9_has : GoodIn wsX6_fill wsX9_has := goodIn_r _ [12] (by decide +kernel) (by decide +kernel)
set_option maxRecDepth 20000 in
theorem gX6_fill_X9_has_n48 : GoodIn wsX6_fill (wsX9_has) := ggX6_fill_X9_has
theorem dX6_fill_0 : decode cX6_fill 0 = .ok (.iconst 0, 1) := by decide +kernel
theorem dX6_fill_1 : decode cX6_fill 1 = .ok (.istore 5, 2) := by decide +kernel
theorem dX6_fill_3 : decode cX6_fill 3 = .ok (.iload 5, 2) := by decide +kernel
theorem dX6_fill_5 : decode cX6_fill 5 = .ok (.aload_n 0, 1) := by decide +kernel
theorem dX6_fill_6 : decode cX6_fill 6 = .ok (.getfield 12, 3) := by decide +kernel
theorem dX6_fill_9 : decode cX6_fill 9 = .ok (.getfield 74, 3) := by decide +kernel
theorem dX6_fill_12 : decode cX6_fill 12 = .ok (.if_icmp .ge 173, 3) := by decide +kernel
theorem dX6_fill_15 : decode cX6_fill 15 = .ok (.iload 5, 2) := by decide +kernel
theorem dX6_fill_17 : decode cX6_fill 17 = .ok (.aload_n 1, 1) := by decide +kernel
theorem dX6_fill_18 : decode cX6_fill 18 = .ok (.arraylength, 1) := by decide +kernel
theorem dX6_fill_19 : decode cX6_fill 19 = .ok (.if_icmp .ge 166, 3) := by decide +kernel
theorem dX6_fill_22 : decode cX6_fill 22 = .ok (.aload_n 0, 1) := by decide +kernel
theorem dX6_fill_23 : decode cX6_fill 23 = .ok (.getfield 12, 3) := by decide +kernel
theorem dX6_fill_26 : decode cX6_fill 26 = .ok (.getfield 78, 3) := by decide +kernel
theorem dX6_fill_29 : decode cX6_fill 29 = .ok (.iload 5, 2) := by decide +kernel
theorem dX6_fill_31 : decode cX6_fill 31 = .ok (.iaload, 1) := by decide +kernel
theorem dX6_fill_32 : decode cX6_fill 32 = .ok (.istore 6, 2) := by decide +kernel
theorem dX6_fill_34 : decode cX6_fill 34 = .ok (.aload_n 1, 1) := by decide +kernel
theorem dX6_fill_35 : decode cX6_fill 35 = .ok (.aload_n 0, 1) := by decide +kernel
theorem dX6_fill_36 : decode cX6_fill 36 = .ok (.getfield 12, 3) := by decide +kernel
theorem dX6_fill_39 : decode cX6_fill 39 = .ok (.getfield 81, 3) := by decide +kernel
theorem dX6_fill_42 : decode cX6_fill 42 = .ok (.iload 5, 2) := by decide +kernel
theorem dX6_fill_44 : decode cX6_fill 44 = .ok (.iaload, 1) := by decide +kernel
theorem dX6_fill_45 : decode cX6_fill 45 = .ok (.invokestatic 36, 3) := by decide +kernel
theorem dX6_fill_48 : decode cX6_fill 48 = .ok (.istore 7, 2) := by decide +kernel
theorem dX6_fill_50 : decode cX6_fill 50 = .ok (.aload_n 1, 1) := by decide +kernel
theorem dX6_fill_51 : decode cX6_fill 51 = .ok (.aload_n 0, 1) := by decide +kernel
theorem dX6_fill_52 : decode cX6_fill 52 = .ok (.getfield 12, 3) := by decide +kernel
theorem dX6_fill_55 : decode cX6_fill 55 = .ok (.getfield 84, 3) := by decide +kernel
theorem dX6_fill_58 : decode cX6_fill 58 = .ok (.iload 5, 2) := by decide +kernel
theorem dX6_fill_60 : decode cX6_fill 60 = .ok (.iaload, 1) := by decide +kernel
theorem dX6_fill_61 : decode cX6_fill 61 = .ok (.invokestatic 36, 3) := by decide +kernel
theorem dX6_fill_64 : decode cX6_fill 64 = .ok (.istore 8, 2) := by decide +kernel
theorem dX6_fill_66 : decode cX6_fill 66 = .ok (.aload_n 1, 1) := by decide +kernel
theorem dX6_fill_67 : decode cX6_fill 67 = .ok (.iload 5, 2) := by decide +kernel
theorem dX6_fill_69 : decode cX6_fill 69 = .ok (.iload 6, 2) := by decide +kernel
theorem dX6_fill_71 : decode cX6_fill 71 = .ok (.iconst 4, 1) := by decide +kernel
theorem dX6_fill_72 : decode cX6_fill 72 = .ok (.if_icmp .ge 14, 3) := by decide +kernel
theorem dX6_fill_75 : decode cX6_fill 75 = .ok (.getstatic 87, 3) := by decide +kernel
theorem dX6_fill_78 : decode cX6_fill 78 = .ok (.iload 6, 2) := by decide +kernel
theorem dX6_fill_80 : decode cX6_fill 80 = .ok (.invokestatic 36, 3) := by decide +kernel
theorem dX6_fill_83 : decode cX6_fill 83 = .ok (.goto 95, 3) := by decide +kernel
theorem dX6_fill_86 : decode cX6_fill 86 = .ok (.iload 6, 2) := by decide +kernel
theorem dX6_fill_88 : decode cX6_fill 88 = .ok (.iconst 4, 1) := by decide +kernel
theorem dX6_fill_89 : decode cX6_fill 89 = .ok (.if_icmp .ne 8, 3) := by decide +kernel
theorem dX6_fill_92 : decode cX6_fill 92 = .ok (.ldc 31, 2) := by decide +kernel
theorem dX6_fill_94 : decode cX6_fill 94 = .ok (.goto 84, 3) := by decide +kernel
theorem dX6_fill_97 : decode cX6_fill 97 = .ok (.iload 6, 2) := by decide +kernel
theorem dX6_fill_99 : decode cX6_fill 99 = .ok (.iconst 5, 1) := by decide +kernel
theorem dX6_fill_100 : decode cX6_fill 100 = .ok (.if_icmp .ne 7, 3) := by decide +kernel
theorem dX6_fill_103 : decode cX6_fill 103 = .ok (.iconst 0, 1) := by decide +kernel
theorem dX6_fill_104 : decode cX6_fill 104 = .ok (.goto 74, 3) := by decide +kernel
theorem dX6_fill_107 : decode cX6_fill 107 = .ok (.iload 6, 2) := by decide +kernel
theorem dX6_fill_109 : decode cX6_fill 109 = .ok (.bipush 7, 2) := by decide +kernel
theorem dX6_fill_111 : decode cX6_fill 111 = .ok (.if_icmp .ne 11, 3) := by decide +kernel
theorem dX6_fill_114 : decode cX6_fill 114 = .ok (.iload 7, 2) := by decide +kernel
theorem dX6_fill_116 : decode cX6_fill 116 = .ok (.iload 8, 2) := by decide +kernel
theorem dX6_fill_118 : decode cX6_fill 118 = .ok (.iand, 1) := by decide +kernel
theorem dX6_fill_119 : decode cX6_fill 119 = .ok (.goto 59, 3) := by decide +kernel
theorem dX6_fill_122 : decode cX6_fill 122 = .ok (.iload 6, 2) := by decide +kernel
theorem dX6_fill_124 : decode cX6_fill 124 = .ok (.bipush 8, 2) := by decide +kernel
theorem dX6_fill_126 : decode cX6_fill 126 = .ok (.if_icmp .ne 11, 3) := by decide +kernel
theorem dX6_fill_129 : decode cX6_fill 129 = .ok (.iload 7, 2) := by decide +kernel
theorem dX6_fill_131 : decode cX6_fill 131 = .ok (.iload 8, 2) := by decide +kernel
theorem dX6_fill_133 : decode cX6_fill 133 = .ok (.ior, 1) := by decide +kernel
theorem dX6_fill_134 : decode cX6_fill 134 = .ok (.goto 44, 3) := by decide +kernel
theorem dX6_fill_137 : decode cX6_fill 137 = .ok (.aload_n 2, 1) := by decide +kernel
theorem dX6_fill_138 : decode cX6_fill 138 = .ok (.iload 5, 2) := by decide +kernel
theorem dX6_fill_140 : decode cX6_fill 140 = .ok (.invokestatic 36, 3) := by decide +kernel
theorem dX6_fill_143 : decode cX6_fill 143 = .ok (.iload_n 3, 1) := by decide +kernel
theorem dX6_fill_144 : decode cX6_fill 144 = .ok (.invokestatic 48, 3) := by decide +kernel
theorem dX6_fill_147 : decode cX6_fill 147 = .ok (.ifCond .eq 30, 3) := by decide +kernel
theorem dX6_fill_150 : decode cX6_fill 150 = .ok (.aload_n 2, 1) := by decide +kernel
theorem dX6_fill_151 : decode cX6_fill 151 = .ok (.iload 5, 2) := by decide +kernel
theorem dX6_fill_153 : decode cX6_fill 153 = .ok (.invokestatic 36, 3) := by decide +kernel
theorem dX6_fill_156 : decode cX6_fill 156 = .ok (.iload 4, 2) := by decide +kernel
theorem dX6_fill_158 : decode cX6_fill 158 = .ok (.invokestatic 48, 3) := by decide +kernel
theorem dX6_fill_161 : decode cX6_fill 161 = .ok (.ifCond .eq 16, 3) := by decide +kernel
theorem dX6_fill_164 : decode cX6_fill 164 = .ok (.iload 7, 2) := by decide +kernel
theorem dX6_fill_166 : decode cX6_fill 166 = .ok (.iconst (-1), 1) := by decide +kernel
theorem dX6_fill_167 : decode cX6_fill 167 = .ok (.ixor, 1) := by decide +kernel
theorem dX6_fill_168 : decode cX6_fill 168 = .ok (.ldc 31, 2) := by decide +kernel
theorem dX6_fill_170 : decode cX6_fill 170 = .ok (.iand, 1) := by decide +kernel
theorem dX6_fill_171 : decode cX6_fill 171 = .ok (.iload 8, 2) := by decide +kernel
theorem dX6_fill_173 : decode cX6_fill 173 = .ok (.ior, 1) := by decide +kernel
theorem dX6_fill_174 : decode cX6_fill 174 = .ok (.goto 4, 3) := by decide +kernel
theorem dX6_fill_177 : decode cX6_fill 177 = .ok (.iconst 0, 1) := by decide +kernel
theorem dX6_fill_178 : decode cX6_fill 178 = .ok (.iastore, 1) := by decide +kernel
theorem dX6_fill_179 : decode cX6_fill 179 = .ok (.iinc 5 1, 3) := by decide +kernel
theorem dX6_fill_182 : decode cX6_fill 182 = .ok (.goto (-179), 3) := by decide +kernel
theorem dX6_fill_185 : decode cX6_fill 185 = .ok (.return_, 1) := by decide +kernel
set_option maxRecDepth 20000 in
theorem ggX6_supporting_X9_has : GoodIn wsX6_supporting wsX9_has := goodIn_r _ [5] (by decide +kernel) (by decide +kernel)
set_option maxRecDepth 20000 in
theorem gX6_supporting_X9_has_n48 : GoodIn wsX6_supporting (wsX9_has) := ggX6_supporting_X9_has
set_option maxRecDepth 20000 in
theorem ggX6_supporting_X4_whole : GoodIn wsX6_supporting wsX4_whole := goodIn_r _ [10, 11, 12, 4, 13, 19, 20, 21, 22, 23, 24, 25, 26] (by decide +kernel) (by decide +kernel)
set_option maxRecDepth 20000 in
theorem gX6_supporting_X4_whole : GoodIn wsX6_supporting (wsV RX6 90 RX4 yX4_whole wsX4_whole) := goodIn_app (goodIn_of _ (by decide +kernel)) ggX6_supporting_X4_whole
set_option maxRecDepth 20000 in
theorem ggX6_supporting_X9_at : GoodIn wsX6_supporting wsX9_at := goodIn_r _ [13] (by decide +kernel) (by decide +kernel)
set_option maxRecDepth 20000 in
theorem gX6_supporting_X9_at_n36 : GoodIn wsX6_supporting (wsX9_at) := ggX6_supporting_X9_at
theorem dX6_supporting_0 : decode cX6_supporting 0 = .ok (.ldc 31, 2) := by decide +kernel
theorem dX6_supporting_2 : decode cX6_supporting 2 = .ok (.istore_n 3, 1) := by decide +kernel
theorem dX6_supporting_3 : decode cX6_supporting 3 = .ok (.iconst 0, 1) := by decide +kernel
theorem dX6_supporting_4 : decode cX6_supporting 4 = .ok (.istore 4, 2) := by decide +kernel
theorem dX6_supporting_6 : decode cX6_supporting 6 = .ok (.iload 4, 2) := by decide +kernel
theorem dX6_supporting_8 : decode cX6_supporting 8 = .ok (.iconst 5, 1) := by decide +kernel
theorem dX6_supporting_9 : decode cX6_supporting 9 = .ok (.if_icmp .ge 39, 3) := by decide +kernel
theorem dX6_supporting_12 : decode cX6_supporting 12 = .ok (.iload_n 3, 1) := by decide +kernel
theorem dX6_supporting_13 : decode cX6_supporting 13 = .ok (.iload_n 2, 1) := by decide +kernel
theorem dX6_supporting_14 : decode cX6_supporting 14 = .ok (.iload 4, 2) := by decide +kernel
theorem dX6_supporting_16 : decode cX6_supporting 16 = .ok (.invokestatic 48, 3) := by decide +kernel
theorem dX6_supporting_19 : decode cX6_supporting 19 = .ok (.ifCond .eq 19, 3) := by decide +kernel
theorem dX6_supporting_22 : decode cX6_supporting 22 = .ok (.aload_n 1, 1) := by decide +kernel
theorem dX6_supporting_23 : decode cX6_supporting 23 = .ok (.aload_n 0, 1) := by decide +kernel
theorem dX6_supporting_24 : decode cX6_supporting 24 = .ok (.getfield 12, 3) := by decide +kernel
theorem dX6_supporting_27 : decode cX6_supporting 27 = .ok (.iload 4, 2) := by decide +kernel
theorem dX6_supporting_29 : decode cX6_supporting 29 = .ok (.invokevirtual 90, 3) := by decide +kernel
theorem dX6_supporting_32 : decode cX6_supporting 32 = .ok (.invokestatic 36, 3) := by decide +kernel
theorem dX6_supporting_35 : decode cX6_supporting 35 = .ok (.goto 5, 3) := by decide +kernel
theorem dX6_supporting_38 : decode cX6_supporting 38 = .ok (.ldc 31, 2) := by decide +kernel
theorem dX6_supporting_40 : decode cX6_supporting 40 = .ok (.iand, 1) := by decide +kernel
theorem dX6_supporting_41 : decode cX6_supporting 41 = .ok (.istore_n 3, 1) := by decide +kernel
theorem dX6_supporting_42 : decode cX6_supporting 42 = .ok (.iinc 4 1, 3) := by decide +kernel
theorem dX6_supporting_45 : decode cX6_supporting 45 = .ok (.goto (-39), 3) := by decide +kernel
theorem dX6_supporting_48 : decode cX6_supporting 48 = .ok (.iload_n 3, 1) := by decide +kernel
theorem dX6_supporting_49 : decode cX6_supporting 49 = .ok (.ireturn, 1) := by decide +kernel
set_option maxRecDepth 20000 in
theorem ggX6_refuting_X6_supporting : GoodIn wsX6_refuting wsX6_supporting := goodIn_r _ [6, 7, 1, 8, 9, 10, 11, 12, 13, 14, 15, 16, 17, 18, 19, 20, 21, 22, 23, 24, 25, 26, 27, 28, 29, 30, 31] (by decide +kernel) (by decide +kernel)
set_option maxRecDepth 20000 in
theorem gX6_refuting_X6_supporting : GoodIn wsX6_refuting (wsV RX6 71 RX6 yX6_supporting wsX6_supporting) := goodIn_app (goodIn_of _ (by decide +kernel)) ggX6_refuting_X6_supporting
set_option maxRecDepth 20000 in
theorem ggX6_refuting_X4_whole : GoodIn wsX6_refuting wsX4_whole := goodIn_r _ [15, 16, 17, 9, 18, 24, 25, 26, 27, 28, 29, 30, 31] (by decide +kernel) (by decide +kernel)
set_option maxRecDepth 20000 in
theorem gX6_refuting_X4_whole : GoodIn wsX6_refuting (wsV RX6 90 RX4 yX4_whole wsX4_whole) := goodIn_app (goodIn_of _ (by decide +kernel)) ggX6_refuting_X4_whole
set_option maxRecDepth 20000 in
theorem ggX6_refuting_X9_at : GoodIn wsX6_refuting wsX9_at := goodIn_r _ [18] (by decide +kernel) (by decide +kernel)
set_option maxRecDepth 20000 in
theorem gX6_refuting_X9_at_n36 : GoodIn wsX6_refuting (wsX9_at) := ggX6_refuting_X9_at
theorem dX6_refuting_0 : decode cX6_refuting 0 = .ok (.aload_n 0, 1) := by decide +kernel
theorem dX6_refuting_1 : decode cX6_refuting 1 = .ok (.aload_n 1, 1) := by decide +kernel
theorem dX6_refuting_2 : decode cX6_refuting 2 = .ok (.iload_n 2, 1) := by decide +kernel
theorem dX6_refuting_3 : decode cX6_refuting 3 = .ok (.invokevirtual 71, 3) := by decide +kernel
theorem dX6_refuting_6 : decode cX6_refuting 6 = .ok (.aload_n 1, 1) := by decide +kernel
theorem dX6_refuting_7 : decode cX6_refuting 7 = .ok (.aload_n 0, 1) := by decide +kernel
theorem dX6_refuting_8 : decode cX6_refuting 8 = .ok (.getfield 12, 3) := by decide +kernel
theorem dX6_refuting_11 : decode cX6_refuting 11 = .ok (.iload_n 3, 1) := by decide +kernel
theorem dX6_refuting_12 : decode cX6_refuting 12 = .ok (.invokevirtual 90, 3) := by decide +kernel
theorem dX6_refuting_15 : decode cX6_refuting 15 = .ok (.invokestatic 36, 3) := by decide +kernel
theorem dX6_refuting_18 : decode cX6_refuting 18 = .ok (.iconst (-1), 1) := by decide +kernel
theorem dX6_refuting_19 : decode cX6_refuting 19 = .ok (.ixor, 1) := by decide +kernel
theorem dX6_refuting_20 : decode cX6_refuting 20 = .ok (.iand, 1) := by decide +kernel
theorem dX6_refuting_21 : decode cX6_refuting 21 = .ok (.ireturn, 1) := by decide +kernel
set_option maxRecDepth 20000 in
theorem ggX6_below_X9_has : GoodIn wsX6_below wsX9_has := goodIn_r _ [5] (by decide +kernel) (by decide +kernel)
set_option maxRecDepth 20000 in
theorem gX6_below_X9_has_n48 : GoodIn wsX6_below (wsX9_has) := ggX6_below_X9_has
theorem dX6_below_0 : decode cX6_below 0 = .ok (.ldc 31, 2) := by decide +kernel
theorem dX6_below_2 : decode cX6_below 2 = .ok (.istore_n 1, 1) := by decide +kernel
theorem dX6_below_3 : decode cX6_below 3 = .ok (.iconst 0, 1) := by decide +kernel
theorem dX6_below_4 : decode cX6_below 4 = .ok (.istore_n 2, 1) := by decide +kernel
theorem dX6_below_5 : decode cX6_below 5 = .ok (.iload_n 2, 1) := by decide +kernel
theorem dX6_below_6 : decode cX6_below 6 = .ok (.iconst 4, 1) := by decide +kernel
theorem dX6_below_7 : decode cX6_below 7 = .ok (.if_icmp .ge 32, 3) := by decide +kernel
theorem dX6_below_10 : decode cX6_below 10 = .ok (.iload_n 1, 1) := by decide +kernel
theorem dX6_below_11 : decode cX6_below 11 = .ok (.iload_n 0, 1) := by decide +kernel
theorem dX6_below_12 : decode cX6_below 12 = .ok (.iload_n 2, 1) := by decide +kernel
theorem dX6_below_13 : decode cX6_below 13 = .ok (.invokestatic 48, 3) := by decide +kernel
theorem dX6_below_16 : decode cX6_below 16 = .ok (.ifCond .eq 8, 3) := by decide +kernel
theorem dX6_below_19 : decode cX6_below 19 = .ok (.ldc 31, 2) := by decide +kernel
theorem dX6_below_21 : decode cX6_below 21 = .ok (.goto 10, 3) := by decide +kernel
theorem dX6_below_24 : decode cX6_below 24 = .ok (.getstatic 87, 3) := by decide +kernel
theorem dX6_below_27 : decode cX6_below 27 = .ok (.iload_n 2, 1) := by decide +kernel
theorem dX6_below_28 : decode cX6_below 28 = .ok (.iaload, 1) := by decide +kernel
theorem dX6_below_29 : decode cX6_below 29 = .ok (.iconst (-1), 1) := by decide +kernel
theorem dX6_below_30 : decode cX6_below 30 = .ok (.ixor, 1) := by decide +kernel
theorem dX6_below_31 : decode cX6_below 31 = .ok (.iand, 1) := by decide +kernel
theorem dX6_below_32 : decode cX6_below 32 = .ok (.istore_n 1, 1) := by decide +kernel
theorem dX6_below_33 : decode cX6_below 33 = .ok (.iinc 2 1, 3) := by decide +kernel
theorem dX6_below_36 : decode cX6_below 36 = .ok (.goto (-31), 3) := by decide +kernel
theorem dX6_below_39 : decode cX6_below 39 = .ok (.iload_n 1, 1) := by decide +kernel
theorem dX6_below_40 : decode cX6_below 40 = .ok (.ireturn, 1) := by decide +kernel
theorem dX7_init_0 : decode cX7_init 0 = .ok (.aload_n 0, 1) := by decide +kernel
theorem dX7_init_1 : decode cX7_init 1 = .ok (.invokespecial 3, 3) := by decide +kernel
theorem dX7_init_4 : decode cX7_init 4 = .ok (.aload_n 0, 1) := by decide +kernel
theorem dX7_init_5 : decode cX7_init 5 = .ok (.iconst 1, 1) := by decide +kernel
theorem dX7_init_6 : decode cX7_init 6 = .ok (.putfield 9, 3) := by decide +kernel
theorem dX7_init_9 : decode cX7_init 9 = .ok (.aload_n 0, 1) := by decide +kernel
theorem dX7_init_10 : decode cX7_init 10 = .ok (.bipush 8, 2) := by decide +kernel
theorem dX7_init_12 : decode cX7_init 12 = .ok (.newarray .int, 2) := by decide +kernel
theorem dX7_init_14 : decode cX7_init 14 = .ok (.putfield 15, 3) := by decide +kernel
theorem dX7_init_17 : decode cX7_init 17 = .ok (.aload_n 0, 1) := by decide +kernel
theorem dX7_init_18 : decode cX7_init 18 = .ok (.bipush 8, 2) := by decide +kernel
theorem dX7_init_20 : decode cX7_init 20 = .ok (.newarray .int, 2) := by decide +kernel
theorem dX7_init_22 : decode cX7_init 22 = .ok (.putfield 19, 3) := by decide +kernel
theorem dX7_init_25 : decode cX7_init 25 = .ok (.aload_n 0, 1) := by decide +kernel
theorem dX7_init_26 : decode cX7_init 26 = .ok (.iconst 5, 1) := by decide +kernel
theorem dX7_init_27 : decode cX7_init 27 = .ok (.anewarray 22, 3) := by decide +kernel
theorem dX7_init_30 : decode cX7_init 30 = .ok (.putfield 24, 3) := by decide +kernel
theorem dX7_init_33 : decode cX7_init 33 = .ok (.aload_n 0, 1) := by decide +kernel
theorem dX7_init_34 : decode cX7_init 34 = .ok (.bipush 8, 2) := by decide +kernel
theorem dX7_init_36 : decode cX7_init 36 = .ok (.newarray .int, 2) := by decide +kernel
theorem dX7_init_38 : decode cX7_init 38 = .ok (.putfield 28, 3) := by decide +kernel
theorem dX7_init_41 : decode cX7_init 41 = .ok (.aload_n 0, 1) := by decide +kernel
theorem dX7_init_42 : decode cX7_init 42 = .ok (.bipush 8, 2) := by decide +kernel
theorem dX7_init_44 : decode cX7_init 44 = .ok (.newarray .int, 2) := by decide +kernel
theorem dX7_init_46 : decode cX7_init 46 = .ok (.putfield 31, 3) := by decide +kernel
theorem dX7_init_49 : decode cX7_init 49 = .ok (.aload_n 0, 1) := by decide +kernel
theorem dX7_init_50 : decode cX7_init 50 = .ok (.sipush 151, 3) := by decide +kernel
theorem dX7_init_53 : decode cX7_init 53 = .ok (.newarray .int, 2) := by decide +kernel
theorem dX7_init_55 : decode cX7_init 55 = .ok (.putfield 36, 3) := by decide +kernel
theorem dX7_init_58 : decode cX7_init 58 = .ok (.aload_n 0, 1) := by decide +kernel
theorem dX7_init_59 : decode cX7_init 59 = .ok (.getfield 15, 3) := by decide +kernel
theorem dX7_init_62 : decode cX7_init 62 = .ok (.iconst 0, 1) := by decide +kernel
theorem dX7_init_63 : decode cX7_init 63 = .ok (.iconst 1, 1) := by decide +kernel
theorem dX7_init_64 : decode cX7_init 64 = .ok (.iastore, 1) := by decide +kernel
theorem dX7_init_65 : decode cX7_init 65 = .ok (.return_, 1) := by decide +kernel
theorem dX7_takeFrom_0 : decode cX7_takeFrom 0 = .ok (.aload_n 0, 1) := by decide +kernel
theorem dX7_takeFrom_1 : decode cX7_takeFrom 1 = .ok (.aload_n 1, 1) := by decide +kernel
theorem dX7_takeFrom_2 : decode cX7_takeFrom 2 = .ok (.getfield 9, 3) := by decide +kernel
theorem dX7_takeFrom_5 : decode cX7_takeFrom 5 = .ok (.putfield 9, 3) := by decide +kernel
theorem dX7_takeFrom_8 : decode cX7_takeFrom 8 = .ok (.iconst 0, 1) := by decide +kernel
theorem dX7_takeFrom_9 : decode cX7_takeFrom 9 = .ok (.istore_n 2, 1) := by decide +kernel
theorem dX7_takeFrom_10 : decode cX7_takeFrom 10 = .ok (.iload_n 2, 1) := by decide +kernel
theorem dX7_takeFrom_11 : decode cX7_takeFrom 11 = .ok (.bipush 8, 2) := by decide +kernel
theorem dX7_takeFrom_13 : decode cX7_takeFrom 13 = .ok (.if_icmp .ge 33, 3) := by decide +kernel
theorem dX7_takeFrom_16 : decode cX7_takeFrom 16 = .ok (.aload_n 0, 1) := by decide +kernel
theorem dX7_takeFrom_17 : decode cX7_takeFrom 17 = .ok (.getfield 15, 3) := by decide +kernel
theorem dX7_takeFrom_20 : decode cX7_takeFrom 20 = .ok (.iload_n 2, 1) := by decide +kernel
theorem dX7_takeFrom_21 : decode cX7_takeFrom 21 = .ok (.aload_n 1, 1) := by decide +kernel
theorem dX7_takeFrom_22 : decode cX7_takeFrom 22 = .ok (.getfield 15, 3) := by decide +kernel
theorem dX7_takeFrom_25 : decode cX7_takeFrom 25 = .ok (.iload_n 2, 1) := by decide +kernel
theorem dX7_takeFrom_26 : decode cX7_takeFrom 26 = .ok (.iaload, 1) := by decide +kernel
theorem dX7_takeFrom_27 : decode cX7_takeFrom 27 = .ok (.iastore, 1) := by decide +kernel
theorem dX7_takeFrom_28 : decode cX7_takeFrom 28 = .ok (.aload_n 0, 1) := by decide +kernel
theorem dX7_takeFrom_29 : decode cX7_takeFrom 29 = .ok (.getfield 19, 3) := by decide +kernel
theorem dX7_takeFrom_32 : decode cX7_takeFrom 32 = .ok (.iload_n 2, 1) := by decide +kernel
theorem dX7_takeFrom_33 : decode cX7_takeFrom 33 = .ok (.aload_n 1, 1) := by decide +kernel
theorem dX7_takeFrom_34 : decode cX7_takeFrom 34 = .ok (.getfield 19, 3) := by decide +kernel
theorem dX7_takeFrom_37 : decode cX7_takeFrom 37 = .ok (.iload_n 2, 1) := by decide +kernel
theorem dX7_takeFrom_38 : decode cX7_takeFrom 38 = .ok (.iaload, 1) := by decide +kernel
theorem dX7_takeFrom_39 : decode cX7_takeFrom 39 = .ok (.iastore, 1) := by decide +kernel
theorem dX7_takeFrom_40 : decode cX7_takeFrom 40 = .ok (.iinc 2 1, 3) := by decide +kernel
theorem dX7_takeFrom_43 : decode cX7_takeFrom 43 = .ok (.goto (-33), 3) := by decide +kernel
theorem dX7_takeFrom_46 : decode cX7_takeFrom 46 = .ok (.iconst 0, 1) := by decide +kernel
theorem dX7_takeFrom_47 : decode cX7_takeFrom 47 = .ok (.istore_n 2, 1) := by decide +kernel
theorem dX7_takeFrom_48 : decode cX7_takeFrom 48 = .ok (.iload_n 2, 1) := by decide +kernel
theorem dX7_takeFrom_49 : decode cX7_takeFrom 49 = .ok (.iconst 5, 1) := by decide +kernel
theorem dX7_takeFrom_50 : decode cX7_takeFrom 50 = .ok (.if_icmp .ge 21, 3) := by decide +kernel
theorem dX7_takeFrom_53 : decode cX7_takeFrom 53 = .ok (.aload_n 0, 1) := by decide +kernel
theorem dX7_takeFrom_54 : decode cX7_takeFrom 54 = .ok (.getfield 24, 3) := by decide +kernel
theorem dX7_takeFrom_57 : decode cX7_takeFrom 57 = .ok (.iload_n 2, 1) := by decide +kernel
theorem dX7_takeFrom_58 : decode cX7_takeFrom 58 = .ok (.aload_n 1, 1) := by decide +kernel
theorem dX7_takeFrom_59 : decode cX7_takeFrom 59 = .ok (.getfield 24, 3) := by decide +kernel
theorem dX7_takeFrom_62 : decode cX7_takeFrom 62 = .ok (.iload_n 2, 1) := by decide +kernel
theorem dX7_takeFrom_63 : decode cX7_takeFrom 63 = .ok (.aaload, 1) := by decide +kernel
theorem dX7_takeFrom_64 : decode cX7_takeFrom 64 = .ok (.aastore, 1) := by decide +kernel
theorem dX7_takeFrom_65 : decode cX7_takeFrom 65 = .ok (.iinc 2 1, 3) := by decide +kernel
theorem dX7_takeFrom_68 : decode cX7_takeFrom 68 = .ok (.goto (-20), 3) := by decide +kernel
theorem dX7_takeFrom_71 : decode cX7_takeFrom 71 = .ok (.return_, 1) := by decide +kernel
theorem dX7_isStage_0 : decode cX7_isStage 0 = .ok (.iload_n 1, 1) := by decide +kernel
theorem dX7_isStage_1 : decode cX7_isStage 1 = .ok (.ifCond .lt 15, 3) := by decide +kernel
theorem dX7_isStage_4 : decode cX7_isStage 4 = .ok (.iload_n 1, 1) := by decide +kernel
theorem dX7_isStage_5 : decode cX7_isStage 5 = .ok (.aload_n 0, 1) := by decide +kernel
theorem dX7_isStage_6 : decode cX7_isStage 6 = .ok (.getfield 9, 3) := by decide +kernel
theorem dX7_isStage_9 : decode cX7_isStage 9 = .ok (.if_icmp .ge 7, 3) := by decide +kernel
theorem dX7_isStage_12 : decode cX7_isStage 12 = .ok (.iconst 1, 1) := by decide +kernel
theorem dX7_isStage_13 : decode cX7_isStage 13 = .ok (.goto 4, 3) := by decide +kernel
theorem dX7_isStage_16 : decode cX7_isStage 16 = .ok (.iconst 0, 1) := by decide +kernel
theorem dX7_isStage_17 : decode cX7_isStage 17 = .ok (.ireturn, 1) := by decide +kernel
theorem dX7_all_0 : decode cX7_all 0 = .ok (.iconst 1, 1) := by decide +kernel
theorem dX7_all_1 : decode cX7_all 1 = .ok (.aload_n 0, 1) := by decide +kernel
theorem dX7_all_2 : decode cX7_all 2 = .ok (.getfield 9, 3) := by decide +kernel
theorem dX7_all_5 : decode cX7_all 5 = .ok (.ishl, 1) := by decide +kernel
theorem dX7_all_6 : decode cX7_all 6 = .ok (.iconst 1, 1) := by decide +kernel
theorem dX7_all_7 : decode cX7_all 7 = .ok (.isub, 1) := by decide +kernel
theorem dX7_all_8 : decode cX7_all 8 = .ok (.ireturn, 1) := by decide +kernel
theorem dX7_earlier_0 : decode cX7_earlier 0 = .ok (.iconst 0, 1) := by decide +kernel
theorem dX7_earlier_1 : decode cX7_earlier 1 = .ok (.istore_n 2, 1) := by decide +kernel
theorem dX7_earlier_2 : decode cX7_earlier 2 = .ok (.iconst 0, 1) := by decide +kernel
theorem dX7_earlier_3 : decode cX7_earlier 3 = .ok (.istore_n 3, 1) := by decide +kernel
theorem dX7_earlier_4 : decode cX7_earlier 4 = .ok (.iload_n 3, 1) := by decide +kernel
theorem dX7_earlier_5 : decode cX7_earlier 5 = .ok (.aload_n 0, 1) := by decide +kernel
theorem dX7_earlier_6 : decode cX7_earlier 6 = .ok (.getfield 9, 3) := by decide +kernel
theorem dX7_earlier_9 : decode cX7_earlier 9 = .ok (.if_icmp .ge 24, 3) := by decide +kernel
theorem dX7_earlier_12 : decode cX7_earlier 12 = .ok (.iload_n 2, 1) := by decide +kernel
theorem dX7_earlier_13 : decode cX7_earlier 13 = .ok (.aload_n 0, 1) := by decide +kernel
theorem dX7_earlier_14 : decode cX7_earlier 14 = .ok (.getfield 15, 3) := by decide +kernel
theorem dX7_earlier_17 : decode cX7_earlier 17 = .ok (.iload_n 3, 1) := by decide +kernel
theorem dX7_earlier_18 : decode cX7_earlier 18 = .ok (.iaload, 1) := by decide +kernel
theorem dX7_earlier_19 : decode cX7_earlier 19 = .ok (.iload_n 1, 1) := by decide +kernel
theorem dX7_earlier_20 : decode cX7_earlier 20 = .ok (.ishr, 1) := by decide +kernel
theorem dX7_earlier_21 : decode cX7_earlier 21 = .ok (.iconst 1, 1) := by decide +kernel
theorem dX7_earlier_22 : decode cX7_earlier 22 = .ok (.iand, 1) := by decide +kernel
theorem dX7_earlier_23 : decode cX7_earlier 23 = .ok (.iload_n 3, 1) := by decide +kernel
theorem dX7_earlier_24 : decode cX7_earlier 24 = .ok (.ishl, 1) := by decide +kernel
theorem dX7_earlier_25 : decode cX7_earlier 25 = .ok (.ior, 1) := by decide +kernel
theorem dX7_earlier_26 : decode cX7_earlier 26 = .ok (.istore_n 2, 1) := by decide +kernel
theorem dX7_earlier_27 : decode cX7_earlier 27 = .ok (.iinc 3 1, 3) := by decide +kernel
theorem dX7_earlier_30 : decode cX7_earlier 30 = .ok (.goto (-26), 3) := by decide +kernel
theorem dX7_earlier_33 : decode cX7_earlier 33 = .ok (.iload_n 2, 1) := by decide +kernel
theorem dX7_earlier_34 : decode cX7_earlier 34 = .ok (.ireturn, 1) := by decide +kernel
theorem dX7_knowing_0 : decode cX7_knowing 0 = .ok (.iconst 0, 1) := by decide +kernel
theorem dX7_knowing_1 : decode cX7_knowing 1 = .ok (.istore_n 2, 1) := by decide +kernel
theorem dX7_knowing_2 : decode cX7_knowing 2 = .ok (.iconst 0, 1) := by decide +kernel
theorem dX7_knowing_3 : decode cX7_knowing 3 = .ok (.istore_n 3, 1) := by decide +kernel
theorem dX7_knowing_4 : decode cX7_knowing 4 = .ok (.iload_n 3, 1) := by decide +kernel
theorem dX7_knowing_5 : decode cX7_knowing 5 = .ok (.aload_n 0, 1) := by decide +kernel
theorem dX7_knowing_6 : decode cX7_knowing 6 = .ok (.getfield 9, 3) := by decide +kernel
theorem dX7_knowing_9 : decode cX7_knowing 9 = .ok (.if_icmp .ge 24, 3) := by decide +kernel
theorem dX7_knowing_12 : decode cX7_knowing 12 = .ok (.iload_n 2, 1) := by decide +kernel
theorem dX7_knowing_13 : decode cX7_knowing 13 = .ok (.aload_n 0, 1) := by decide +kernel
theorem dX7_knowing_14 : decode cX7_knowing 14 = .ok (.getfield 19, 3) := by decide +kernel
theorem dX7_knowing_17 : decode cX7_knowing 17 = .ok (.iload_n 3, 1) := by decide +kernel
theorem dX7_knowing_18 : decode cX7_knowing 18 = .ok (.iaload, 1) := by decide +kernel
theorem dX7_knowing_19 : decode cX7_knowing 19 = .ok (.iload_n 1, 1) := by decide +kernel
theorem dX7_knowing_20 : decode cX7_knowing 20 = .ok (.ishr, 1) := by decide +kernel
theorem dX7_knowing_21 : decode cX7_knowing 21 = .ok (.iconst 1, 1) := by decide +kernel
theorem dX7_knowing_22 : decode cX7_knowing 22 = .ok (.iand, 1) := by decide +kernel
theorem dX7_knowing_23 : decode cX7_knowing 23 = .ok (.iload_n 3, 1) := by decide +kernel
theorem dX7_knowing_24 : decode cX7_knowing 24 = .ok (.ishl, 1) := by decide +kernel
theorem dX7_knowing_25 : decode cX7_knowing 25 = .ok (.ior, 1) := by decide +kernel
theorem dX7_knowing_26 : decode cX7_knowing 26 = .ok (.istore_n 2, 1) := by decide +kernel
theorem dX7_knowing_27 : decode cX7_knowing 27 = .ok (.iinc 3 1, 3) := by decide +kernel
theorem dX7_knowing_30 : decode cX7_knowing 30 = .ok (.goto (-26), 3) := by decide +kernel
theorem dX7_knowing_33 : decode cX7_knowing 33 = .ok (.iload_n 2, 1) := by decide +kernel
theorem dX7_knowing_34 : decode cX7_knowing 34 = .ok (.ireturn, 1) := by decide +kernel
theorem dX7_filledPlaces_0 : decode cX7_filledPlaces 0 = .ok (.iconst 0, 1) := by decide +kernel
theorem dX7_filledPlaces_1 : decode cX7_filledPlaces 1 = .ok (.istore_n 1, 1) := by decide +kernel
theorem dX7_filledPlaces_2 : decode cX7_filledPlaces 2 = .ok (.iconst 0, 1) := by decide +kernel
theorem dX7_filledPlaces_3 : decode cX7_filledPlaces 3 = .ok (.istore_n 2, 1) := by decide +kernel
theorem dX7_filledPlaces_4 : decode cX7_filledPlaces 4 = .ok (.iload_n 2, 1) := by decide +kernel
theorem dX7_filledPlaces_5 : decode cX7_filledPlaces 5 = .ok (.iconst 5, 1) := by decide +kernel
theorem dX7_filledPlaces_6 : decode cX7_filledPlaces 6 = .ok (.if_icmp .ge 28, 3) := by decide +kernel
theorem dX7_filledPlaces_9 : decode cX7_filledPlaces 9 = .ok (.iload_n 1, 1) := by decide +kernel
theorem dX7_filledPlaces_10 : decode cX7_filledPlaces 10 = .ok (.aload_n 0, 1) := by decide +kernel
theorem dX7_filledPlaces_11 : decode cX7_filledPlaces 11 = .ok (.getfield 24, 3) := by decide +kernel
theorem dX7_filledPlaces_14 : decode cX7_filledPlaces 14 = .ok (.iload_n 2, 1) := by decide +kernel
theorem dX7_filledPlaces_15 : decode cX7_filledPlaces 15 = .ok (.aaload, 1) := by decide +kernel
theorem dX7_filledPlaces_16 : decode cX7_filledPlaces 16 = .ok (.ifnonnull 7, 3) := by decide +kernel
theorem dX7_filledPlaces_19 : decode cX7_filledPlaces 19 = .ok (.iconst 0, 1) := by decide +kernel
theorem dX7_filledPlaces_20 : decode cX7_filledPlaces 20 = .ok (.goto 6, 3) := by decide +kernel
theorem dX7_filledPlaces_23 : decode cX7_filledPlaces 23 = .ok (.iconst 1, 1) := by decide +kernel
theorem dX7_filledPlaces_24 : decode cX7_filledPlaces 24 = .ok (.iload_n 2, 1) := by decide +kernel
theorem dX7_filledPlaces_25 : decode cX7_filledPlaces 25 = .ok (.ishl, 1) := by decide +kernel
theorem dX7_filledPlaces_26 : decode cX7_filledPlaces 26 = .ok (.ior, 1) := by decide +kernel
theorem dX7_filledPlaces_27 : decode cX7_filledPlaces 27 = .ok (.istore_n 1, 1) := by decide +kernel
theorem dX7_filledPlaces_28 : decode cX7_filledPlaces 28 = .ok (.iinc 2 1, 3) := by decide +kernel
theorem dX7_filledPlaces_31 : decode cX7_filledPlaces 31 = .ok (.goto (-27), 3) := by decide +kernel
theorem dX7_filledPlaces_34 : decode cX7_filledPlaces 34 = .ok (.iload_n 1, 1) := by decide +kernel
theorem dX7_filledPlaces_35 : decode cX7_filledPlaces 35 = .ok (.ireturn, 1) := by decide +kernel
set_option maxRecDepth 20000 in
theorem ggX7_pairs_J6_bitCount_0f7a4 : GoodIn wsX7_pairs wsJ6_bitCount_0f7a4 := goodIn_r _ [6, 7, 8, 9] (by decide +kernel) (by decide +kernel)
set_option maxRecDepth 20000 in
theorem gX7_pairs_J6_bitCount_0f7a4 : GoodIn wsX7_pairs (va_wsS RX7 39 yJ6_bitCount_0f7a4 wsJ6_bitCount_0f7a4) := goodIn_app (goodIn_of _ (by decide +kernel)) ggX7_pairs_J6_bitCount_0f7a4
theorem dX7_pairs_0 : decode cX7_pairs 0 = .ok (.iconst 0, 1) := by decide +kernel
theorem dX7_pairs_1 : decode cX7_pairs 1 = .ok (.istore_n 1, 1) := by decide +kernel
theorem dX7_pairs_2 : decode cX7_pairs 2 = .ok (.iconst 0, 1) := by decide +kernel
theorem dX7_pairs_3 : decode cX7_pairs 3 = .ok (.istore_n 2, 1) := by decide +kernel
theorem dX7_pairs_4 : decode cX7_pairs 4 = .ok (.iload_n 2, 1) := by decide +kernel
theorem dX7_pairs_5 : decode cX7_pairs 5 = .ok (.aload_n 0, 1) := by decide +kernel
theorem dX7_pairs_6 : decode cX7_pairs 6 = .ok (.getfield 9, 3) := by decide +kernel
theorem dX7_pairs_9 : decode cX7_pairs 9 = .ok (.if_icmp .ge 21, 3) := by decide +kernel
theorem dX7_pairs_12 : decode cX7_pairs 12 = .ok (.iload_n 1, 1) := by decide +kernel
theorem dX7_pairs_13 : decode cX7_pairs 13 = .ok (.aload_n 0, 1) := by decide +kernel
theorem dX7_pairs_14 : decode cX7_pairs 14 = .ok (.getfield 15, 3) := by decide +kernel
theorem dX7_pairs_17 : decode cX7_pairs 17 = .ok (.iload_n 2, 1) := by decide +kernel
theorem dX7_pairs_18 : decode cX7_pairs 18 = .ok (.iaload, 1) := by decide +kernel
theorem dX7_pairs_19 : decode cX7_pairs 19 = .ok (.invokestatic 39, 3) := by decide +kernel
theorem dX7_pairs_22 : decode cX7_pairs 22 = .ok (.iadd, 1) := by decide +kernel
theorem dX7_pairs_23 : decode cX7_pairs 23 = .ok (.istore_n 1, 1) := by decide +kernel
theorem dX7_pairs_24 : decode cX7_pairs 24 = .ok (.iinc 2 1, 3) := by decide +kernel
theorem dX7_pairs_27 : decode cX7_pairs 27 = .ok (.goto (-23), 3) := by decide +kernel
theorem dX7_pairs_30 : decode cX7_pairs 30 = .ok (.iload_n 1, 1) := by decide +kernel
theorem dX7_pairs_31 : decode cX7_pairs 31 = .ok (.ireturn, 1) := by decide +kernel
theorem dX7_lastStages_0 : decode cX7_lastStages 0 = .ok (.iconst 0, 1) := by decide +kernel
theorem dX7_lastStages_1 : decode cX7_lastStages 1 = .ok (.istore_n 1, 1) := by decide +kernel
theorem dX7_lastStages_2 : decode cX7_lastStages 2 = .ok (.iconst 0, 1) := by decide +kernel
theorem dX7_lastStages_3 : decode cX7_lastStages 3 = .ok (.istore_n 2, 1) := by decide +kernel
theorem dX7_lastStages_4 : decode cX7_lastStages 4 = .ok (.iload_n 2, 1) := by decide +kernel
theorem dX7_lastStages_5 : decode cX7_lastStages 5 = .ok (.aload_n 0, 1) := by decide +kernel
theorem dX7_lastStages_6 : decode cX7_lastStages 6 = .ok (.getfield 9, 3) := by decide +kernel
theorem dX7_lastStages_9 : decode cX7_lastStages 9 = .ok (.if_icmp .ge 31, 3) := by decide +kernel
theorem dX7_lastStages_12 : decode cX7_lastStages 12 = .ok (.iload_n 1, 1) := by decide +kernel
theorem dX7_lastStages_13 : decode cX7_lastStages 13 = .ok (.aload_n 0, 1) := by decide +kernel
theorem dX7_lastStages_14 : decode cX7_lastStages 14 = .ok (.getfield 15, 3) := by decide +kernel
theorem dX7_lastStages_17 : decode cX7_lastStages 17 = .ok (.iload_n 2, 1) := by decide +kernel
theorem dX7_lastStages_18 : decode cX7_lastStages 18 = .ok (.iaload, 1) := by decide +kernel
theorem dX7_lastStages_19 : decode cX7_lastStages 19 = .ok (.iconst 1, 1) := by decide +kernel
theorem dX7_lastStages_20 : decode cX7_lastStages 20 = .ok (.iload_n 2, 1) := by decide +kernel
theorem dX7_lastStages_21 : decode cX7_lastStages 21 = .ok (.ishl, 1) := by decide +kernel
theorem dX7_lastStages_22 : decode cX7_lastStages 22 = .ok (.if_icmp .ne 9, 3) := by decide +kernel
theorem dX7_lastStages_25 : decode cX7_lastStages 25 = .ok (.iconst 1, 1) := by decide +kernel
theorem dX7_lastStages_26 : decode cX7_lastStages 26 = .ok (.iload_n 2, 1) := by decide +kernel
theorem dX7_lastStages_27 : decode cX7_lastStages 27 = .ok (.ishl, 1) := by decide +kernel
theorem dX7_lastStages_28 : decode cX7_lastStages 28 = .ok (.goto 4, 3) := by decide +kernel
theorem dX7_lastStages_31 : decode cX7_lastStages 31 = .ok (.iconst 0, 1) := by decide +kernel
theorem dX7_lastStages_32 : decode cX7_lastStages 32 = .ok (.ior, 1) := by decide +kernel
theorem dX7_lastStages_33 : decode cX7_lastStages 33 = .ok (.istore_n 1, 1) := by decide +kernel
theorem dX7_lastStages_34 : decode cX7_lastStages 34 = .ok (.iinc 2 1, 3) := by decide +kernel
theorem dX7_lastStages_37 : decode cX7_lastStages 37 = .ok (.goto (-33), 3) := by decide +kernel
theorem dX7_lastStages_40 : decode cX7_lastStages 40 = .ok (.iload_n 1, 1) := by decide +kernel
theorem dX7_lastStages_41 : decode cX7_lastStages 41 = .ok (.ireturn, 1) := by decide +kernel
set_option maxRecDepth 20000 in
theorem ggX7_firstStages_X7_earlier : GoodIn wsX7_firstStages wsX7_earlier := goodIn_r _ [6, 1, 7, 8, 9, 10, 11, 12, 13, 14] (by decide +kernel) (by decide +kernel)
set_option maxRecDepth 20000 in
theorem gX7_firstStages_X7_earlier : GoodIn wsX7_firstStages (wsV RX7 45 RX7 yX7_earlier wsX7_earlier) := goodIn_app (goodIn_of _ (by decide +kernel)) ggX7_firstStages_X7_earlier
theorem dX7_firstStages_0 : decode cX7_firstStages 0 = .ok (.iconst 0, 1) := by decide +kernel
theorem dX7_firstStages_1 : decode cX7_firstStages 1 = .ok (.istore_n 1, 1) := by decide +kernel
theorem dX7_firstStages_2 : decode cX7_firstStages 2 = .ok (.iconst 0, 1) := by decide +kernel
theorem dX7_firstStages_3 : decode cX7_firstStages 3 = .ok (.istore_n 2, 1) := by decide +kernel
theorem dX7_firstStages_4 : decode cX7_firstStages 4 = .ok (.iload_n 2, 1) := by decide +kernel
theorem dX7_firstStages_5 : decode cX7_firstStages 5 = .ok (.aload_n 0, 1) := by decide +kernel
theorem dX7_firstStages_6 : decode cX7_firstStages 6 = .ok (.getfield 9, 3) := by decide +kernel
theorem dX7_firstStages_9 : decode cX7_firstStages 9 = .ok (.if_icmp .ge 30, 3) := by decide +kernel
theorem dX7_firstStages_12 : decode cX7_firstStages 12 = .ok (.iload_n 1, 1) := by decide +kernel
theorem dX7_firstStages_13 : decode cX7_firstStages 13 = .ok (.aload_n 0, 1) := by decide +kernel
theorem dX7_firstStages_14 : decode cX7_firstStages 14 = .ok (.iload_n 2, 1) := by decide +kernel
theorem dX7_firstStages_15 : decode cX7_firstStages 15 = .ok (.invokevirtual 45, 3) := by decide +kernel
theorem dX7_firstStages_18 : decode cX7_firstStages 18 = .ok (.iconst 1, 1) := by decide +kernel
theorem dX7_firstStages_19 : decode cX7_firstStages 19 = .ok (.iload_n 2, 1) := by decide +kernel
theorem dX7_firstStages_20 : decode cX7_firstStages 20 = .ok (.ishl, 1) := by decide +kernel
theorem dX7_firstStages_21 : decode cX7_firstStages 21 = .ok (.if_icmp .ne 9, 3) := by decide +kernel
theorem dX7_firstStages_24 : decode cX7_firstStages 24 = .ok (.iconst 1, 1) := by decide +kernel
theorem dX7_firstStages_25 : decode cX7_firstStages 25 = .ok (.iload_n 2, 1) := by decide +kernel
theorem dX7_firstStages_26 : decode cX7_firstStages 26 = .ok (.ishl, 1) := by decide +kernel
theorem dX7_firstStages_27 : decode cX7_firstStages 27 = .ok (.goto 4, 3) := by decide +kernel
theorem dX7_firstStages_30 : decode cX7_firstStages 30 = .ok (.iconst 0, 1) := by decide +kernel
theorem dX7_firstStages_31 : decode cX7_firstStages 31 = .ok (.ior, 1) := by decide +kernel
theorem dX7_firstStages_32 : decode cX7_firstStages 32 = .ok (.istore_n 1, 1) := by decide +kernel
theorem dX7_firstStages_33 : decode cX7_firstStages 33 = .ok (.iinc 2 1, 3) := by decide +kernel
theorem dX7_firstStages_36 : decode cX7_firstStages 36 = .ok (.goto (-32), 3) := by decide +kernel
theorem dX7_firstStages_39 : decode cX7_firstStages 39 = .ok (.iload_n 1, 1) := by decide +kernel
theorem dX7_firstStages_40 : decode cX7_firstStages 40 = .ok (.ireturn, 1) := by decide +kernel
theorem dX7_commonFacts_0 : decode cX7_commonFacts 0 = .ok (.bipush 15, 2) := by decide +kernel
theorem dX7_commonFacts_2 : decode cX7_commonFacts 2 = .ok (.istore_n 1, 1) := by decide +kernel
theorem dX7_commonFacts_3 : decode cX7_commonFacts 3 = .ok (.iconst 0, 1) := by decide +kernel
theorem dX7_commonFacts_4 : decode cX7_commonFacts 4 = .ok (.istore_n 2, 1) := by decide +kernel
theorem dX7_commonFacts_5 : decode cX7_commonFacts 5 = .ok (.iload_n 2, 1) := by decide +kernel
theorem dX7_commonFacts_6 : decode cX7_commonFacts 6 = .ok (.aload_n 0, 1) := by decide +kernel
theorem dX7_commonFacts_7 : decode cX7_commonFacts 7 = .ok (.getfield 9, 3) := by decide +kernel
theorem dX7_commonFacts_10 : decode cX7_commonFacts 10 = .ok (.if_icmp .ge 18, 3) := by decide +kernel
theorem dX7_commonFacts_13 : decode cX7_commonFacts 13 = .ok (.iload_n 1, 1) := by decide +kernel
theorem dX7_commonFacts_14 : decode cX7_commonFacts 14 = .ok (.aload_n 0, 1) := by decide +kernel
theorem dX7_commonFacts_15 : decode cX7_commonFacts 15 = .ok (.getfield 19, 3) := by decide +kernel
theorem dX7_commonFacts_18 : decode cX7_commonFacts 18 = .ok (.iload_n 2, 1) := by decide +kernel
theorem dX7_commonFacts_19 : decode cX7_commonFacts 19 = .ok (.iaload, 1) := by decide +kernel
theorem dX7_commonFacts_20 : decode cX7_commonFacts 20 = .ok (.iand, 1) := by decide +kernel
theorem dX7_commonFacts_21 : decode cX7_commonFacts 21 = .ok (.istore_n 1, 1) := by decide +kernel
theorem dX7_commonFacts_22 : decode cX7_commonFacts 22 = .ok (.iinc 2 1, 3) := by decide +kernel
theorem dX7_commonFacts_25 : decode cX7_commonFacts 25 = .ok (.goto (-20), 3) := by decide +kernel
theorem dX7_commonFacts_28 : decode cX7_commonFacts 28 = .ok (.iload_n 1, 1) := by decide +kernel
theorem dX7_commonFacts_29 : decode cX7_commonFacts 29 = .ok (.ireturn, 1) := by decide +kernel
set_option maxRecDepth 20000 in
theorem ggX7_grow_X7_earlier : GoodIn wsX7_grow wsX7_earlier := goodIn_r _ [8, 1, 2, 12, 13, 14, 15, 16, 17, 18] (by decide +kernel) (by decide +kernel)
set_option maxRecDepth 20000 in
theorem gX7_grow_X7_earlier : GoodIn wsX7_grow (wsV RX7 45 RX7 yX7_earlier wsX7_earlier) := goodIn_app (goodIn_of _ (by decide +kernel)) ggX7_grow_X7_earlier
set_option maxRecDepth 20000 in
theorem ggX7_grow_X9_has : GoodIn wsX7_grow wsX9_has := goodIn_r _ [11] (by decide +kernel) (by decide +kernel)
set_option maxRecDepth 20000 in
theorem gX7_grow_X9_has_n48 : GoodIn wsX7_grow (wsX9_has) := ggX7_grow_X9_has
theorem dX7_grow_0 : decode cX7_grow 0 = .ok (.aload_n 0, 1) := by decide +kernel
theorem dX7_grow_1 : decode cX7_grow 1 = .ok (.getfield 9, 3) := by decide +kernel
theorem dX7_grow_4 : decode cX7_grow 4 = .ok (.istore_n 2, 1) := by decide +kernel
theorem dX7_grow_5 : decode cX7_grow 5 = .ok (.aload_n 0, 1) := by decide +kernel
theorem dX7_grow_6 : decode cX7_grow 6 = .ok (.iload_n 1, 1) := by decide +kernel
theorem dX7_grow_7 : decode cX7_grow 7 = .ok (.invokevirtual 45, 3) := by decide +kernel
theorem dX7_grow_10 : decode cX7_grow 10 = .ok (.istore_n 3, 1) := by decide +kernel
theorem dX7_grow_11 : decode cX7_grow 11 = .ok (.iconst 0, 1) := by decide +kernel
theorem dX7_grow_12 : decode cX7_grow 12 = .ok (.istore 4, 2) := by decide +kernel
theorem dX7_grow_14 : decode cX7_grow 14 = .ok (.iload 4, 2) := by decide +kernel
theorem dX7_grow_16 : decode cX7_grow 16 = .ok (.iload_n 2, 1) := by decide +kernel
theorem dX7_grow_17 : decode cX7_grow 17 = .ok (.if_icmp .ge 35, 3) := by decide +kernel
theorem dX7_grow_20 : decode cX7_grow 20 = .ok (.aload_n 0, 1) := by decide +kernel
theorem dX7_grow_21 : decode cX7_grow 21 = .ok (.getfield 15, 3) := by decide +kernel
theorem dX7_grow_24 : decode cX7_grow 24 = .ok (.iload 4, 2) := by decide +kernel
theorem dX7_grow_26 : decode cX7_grow 26 = .ok (.dup2, 1) := by decide +kernel
theorem dX7_grow_27 : decode cX7_grow 27 = .ok (.iaload, 1) := by decide +kernel
theorem dX7_grow_28 : decode cX7_grow 28 = .ok (.iload_n 3, 1) := by decide +kernel
theorem dX7_grow_29 : decode cX7_grow 29 = .ok (.iload 4, 2) := by decide +kernel
theorem dX7_grow_31 : decode cX7_grow 31 = .ok (.invokestatic 48, 3) := by decide +kernel
theorem dX7_grow_34 : decode cX7_grow 34 = .ok (.ifCond .eq 9, 3) := by decide +kernel
theorem dX7_grow_37 : decode cX7_grow 37 = .ok (.iconst 1, 1) := by decide +kernel
theorem dX7_grow_38 : decode cX7_grow 38 = .ok (.iload_n 2, 1) := by decide +kernel
theorem dX7_grow_39 : decode cX7_grow 39 = .ok (.ishl, 1) := by decide +kernel
theorem dX7_grow_40 : decode cX7_grow 40 = .ok (.goto 4, 3) := by decide +kernel
theorem dX7_grow_43 : decode cX7_grow 43 = .ok (.iconst 0, 1) := by decide +kernel
theorem dX7_grow_44 : decode cX7_grow 44 = .ok (.ior, 1) := by decide +kernel
theorem dX7_grow_45 : decode cX7_grow 45 = .ok (.iastore, 1) := by decide +kernel
theorem dX7_grow_46 : decode cX7_grow 46 = .ok (.iinc 4 1, 3) := by decide +kernel
theorem dX7_grow_49 : decode cX7_grow 49 = .ok (.goto (-35), 3) := by decide +kernel
theorem dX7_grow_52 : decode cX7_grow 52 = .ok (.aload_n 0, 1) := by decide +kernel
theorem dX7_grow_53 : decode cX7_grow 53 = .ok (.getfield 15, 3) := by decide +kernel
theorem dX7_grow_56 : decode cX7_grow 56 = .ok (.iload_n 2, 1) := by decide +kernel
theorem dX7_grow_57 : decode cX7_grow 57 = .ok (.iconst 1, 1) := by decide +kernel
theorem dX7_grow_58 : decode cX7_grow 58 = .ok (.iload_n 2, 1) := by decide +kernel
theorem dX7_grow_59 : decode cX7_grow 59 = .ok (.ishl, 1) := by decide +kernel
theorem dX7_grow_60 : decode cX7_grow 60 = .ok (.iastore, 1) := by decide +kernel
theorem dX7_grow_61 : decode cX7_grow 61 = .ok (.aload_n 0, 1) := by decide +kernel
theorem dX7_grow_62 : decode cX7_grow 62 = .ok (.getfield 19, 3) := by decide +kernel
theorem dX7_grow_65 : decode cX7_grow 65 = .ok (.iload_n 2, 1) := by decide +kernel
theorem dX7_grow_66 : decode cX7_grow 66 = .ok (.aload_n 0, 1) := by decide +kernel
theorem dX7_grow_67 : decode cX7_grow 67 = .ok (.getfield 19, 3) := by decide +kernel
theorem dX7_grow_70 : decode cX7_grow 70 = .ok (.iload_n 1, 1) := by decide +kernel
theorem dX7_grow_71 : decode cX7_grow 71 = .ok (.iaload, 1) := by decide +kernel
theorem dX7_grow_72 : decode cX7_grow 72 = .ok (.iastore, 1) := by decide +kernel
theorem dX7_grow_73 : decode cX7_grow 73 = .ok (.aload_n 0, 1) := by decide +kernel
theorem dX7_grow_74 : decode cX7_grow 74 = .ok (.dup, 1) := by decide +kernel
theorem dX7_grow_75 : decode cX7_grow 75 = .ok (.getfield 9, 3) := by decide +kernel
theorem dX7_grow_78 : decode cX7_grow 78 = .ok (.iconst 1, 1) := by decide +kernel
theorem dX7_grow_79 : decode cX7_grow 79 = .ok (.iadd, 1) := by decide +kernel
theorem dX7_grow_80 : decode cX7_grow 80 = .ok (.putfield 9, 3) := by decide +kernel
theorem dX7_grow_83 : decode cX7_grow 83 = .ok (.iload_n 2, 1) := by decide +kernel
theorem dX7_grow_84 : decode cX7_grow 84 = .ok (.ireturn, 1) := by decide +kernel
set_option maxRecDepth 20000 in
theorem ggX7_connect_X7_earlier : GoodIn wsX7_connect wsX7_earlier := goodIn_r _ [8, 1, 2, 16, 17, 18, 19, 20, 21, 22] (by decide +kernel) (by decide +kernel)
set_option maxRecDepth 20000 in
theorem gX7_connect_X7_earlier : GoodIn wsX7_connect (wsV RX7 45 RX7 yX7_earlier wsX7_earlier) := goodIn_app (goodIn_of _ (by decide +kernel)) ggX7_connect_X7_earlier
set_option maxRecDepth 20000 in
theorem ggX7_connect_X9_has : GoodIn wsX7_connect wsX9_has := goodIn_r _ [11] (by decide +kernel) (by decide +kernel)
set_option maxRecDepth 20000 in
theorem gX7_connect_X9_has_n48 : GoodIn wsX7_connect (wsX9_has) := ggX7_connect_X9_has
set_option maxRecDepth 20000 in
theorem ggX7_connect_X7_teach : GoodIn wsX7_connect wsX7_teach := goodIn_r _ [15, 1, 3, 9, 10, 11, 16, 17, 18, 19, 20, 21, 22] (by decide +kernel) (by decide +kernel)
set_option maxRecDepth 20000 in
theorem gX7_connect_X7_teach : GoodIn wsX7_connect (wsV RX7 52 RX7 yX7_teach wsX7_teach) := goodIn_app (goodIn_of _ (by decide +kernel)) ggX7_connect_X7_teach
theorem dX7_connect_0 : decode cX7_connect 0 = .ok (.aload_n 0, 1) := by decide +kernel
theorem dX7_connect_1 : decode cX7_connect 1 = .ok (.iload_n 1, 1) := by decide +kernel
theorem dX7_connect_2 : decode cX7_connect 2 = .ok (.invokevirtual 45, 3) := by decide +kernel
theorem dX7_connect_5 : decode cX7_connect 5 = .ok (.istore_n 3, 1) := by decide +kernel
theorem dX7_connect_6 : decode cX7_connect 6 = .ok (.iconst 0, 1) := by decide +kernel
theorem dX7_connect_7 : decode cX7_connect 7 = .ok (.istore 4, 2) := by decide +kernel
theorem dX7_connect_9 : decode cX7_connect 9 = .ok (.iload 4, 2) := by decide +kernel
theorem dX7_connect_11 : decode cX7_connect 11 = .ok (.aload_n 0, 1) := by decide +kernel
theorem dX7_connect_12 : decode cX7_connect 12 = .ok (.getfield 9, 3) := by decide +kernel
theorem dX7_connect_15 : decode cX7_connect 15 = .ok (.if_icmp .ge 38, 3) := by decide +kernel
theorem dX7_connect_18 : decode cX7_connect 18 = .ok (.aload_n 0, 1) := by decide +kernel
theorem dX7_connect_19 : decode cX7_connect 19 = .ok (.getfield 15, 3) := by decide +kernel
theorem dX7_connect_22 : decode cX7_connect 22 = .ok (.iload 4, 2) := by decide +kernel
theorem dX7_connect_24 : decode cX7_connect 24 = .ok (.dup2, 1) := by decide +kernel
theorem dX7_connect_25 : decode cX7_connect 25 = .ok (.iaload, 1) := by decide +kernel
theorem dX7_connect_26 : decode cX7_connect 26 = .ok (.iload_n 3, 1) := by decide +kernel
theorem dX7_connect_27 : decode cX7_connect 27 = .ok (.iload 4, 2) := by decide +kernel
theorem dX7_connect_29 : decode cX7_connect 29 = .ok (.invokestatic 48, 3) := by decide +kernel
theorem dX7_connect_32 : decode cX7_connect 32 = .ok (.ifCond .eq 12, 3) := by decide +kernel
theorem dX7_connect_35 : decode cX7_connect 35 = .ok (.aload_n 0, 1) := by decide +kernel
theorem dX7_connect_36 : decode cX7_connect 36 = .ok (.getfield 15, 3) := by decide +kernel
theorem dX7_connect_39 : decode cX7_connect 39 = .ok (.iload_n 2, 1) := by decide +kernel
theorem dX7_connect_40 : decode cX7_connect 40 = .ok (.iaload, 1) := by decide +kernel
theorem dX7_connect_41 : decode cX7_connect 41 = .ok (.goto 4, 3) := by decide +kernel
theorem dX7_connect_44 : decode cX7_connect 44 = .ok (.iconst 0, 1) := by decide +kernel
theorem dX7_connect_45 : decode cX7_connect 45 = .ok (.ior, 1) := by decide +kernel
theorem dX7_connect_46 : decode cX7_connect 46 = .ok (.iastore, 1) := by decide +kernel
theorem dX7_connect_47 : decode cX7_connect 47 = .ok (.iinc 4 1, 3) := by decide +kernel
theorem dX7_connect_50 : decode cX7_connect 50 = .ok (.goto (-41), 3) := by decide +kernel
theorem dX7_connect_53 : decode cX7_connect 53 = .ok (.aload_n 0, 1) := by decide +kernel
theorem dX7_connect_54 : decode cX7_connect 54 = .ok (.aload_n 0, 1) := by decide +kernel
theorem dX7_connect_55 : decode cX7_connect 55 = .ok (.getfield 15, 3) := by decide +kernel
theorem dX7_connect_58 : decode cX7_connect 58 = .ok (.iload_n 2, 1) := by decide +kernel
theorem dX7_connect_59 : decode cX7_connect 59 = .ok (.iaload, 1) := by decide +kernel
theorem dX7_connect_60 : decode cX7_connect 60 = .ok (.aload_n 0, 1) := by decide +kernel
theorem dX7_connect_61 : decode cX7_connect 61 = .ok (.getfield 19, 3) := by decide +kernel
theorem dX7_connect_64 : decode cX7_connect 64 = .ok (.iload_n 1, 1) := by decide +kernel
theorem dX7_connect_65 : decode cX7_connect 65 = .ok (.iaload, 1) := by decide +kernel
theorem dX7_connect_66 : decode cX7_connect 66 = .ok (.invokevirtual 52, 3) := by decide +kernel
theorem dX7_connect_69 : decode cX7_connect 69 = .ok (.return_, 1) := by decide +kernel
set_option maxRecDepth 20000 in
theorem ggX7_teach_X9_has : GoodIn wsX7_teach wsX9_has := goodIn_r _ [5] (by decide +kernel) (by decide +kernel)
set_option maxRecDepth 20000 in
theorem gX7_teach_X9_has_n48 : GoodIn wsX7_teach (wsX9_has) := ggX7_teach_X9_has
theorem dX7_teach_0 : decode cX7_teach 0 = .ok (.iconst 0, 1) := by decide +kernel
theorem dX7_teach_1 : decode cX7_teach 1 = .ok (.istore_n 3, 1) := by decide +kernel
theorem dX7_teach_2 : decode cX7_teach 2 = .ok (.iload_n 3, 1) := by decide +kernel
theorem dX7_teach_3 : decode cX7_teach 3 = .ok (.aload_n 0, 1) := by decide +kernel
theorem dX7_teach_4 : decode cX7_teach 4 = .ok (.getfield 9, 3) := by decide +kernel
theorem dX7_teach_7 : decode cX7_teach 7 = .ok (.if_icmp .ge 31, 3) := by decide +kernel
theorem dX7_teach_10 : decode cX7_teach 10 = .ok (.aload_n 0, 1) := by decide +kernel
theorem dX7_teach_11 : decode cX7_teach 11 = .ok (.getfield 19, 3) := by decide +kernel
theorem dX7_teach_14 : decode cX7_teach 14 = .ok (.iload_n 3, 1) := by decide +kernel
theorem dX7_teach_15 : decode cX7_teach 15 = .ok (.dup2, 1) := by decide +kernel
theorem dX7_teach_16 : decode cX7_teach 16 = .ok (.iaload, 1) := by decide +kernel
theorem dX7_teach_17 : decode cX7_teach 17 = .ok (.iload_n 1, 1) := by decide +kernel
theorem dX7_teach_18 : decode cX7_teach 18 = .ok (.iload_n 3, 1) := by decide +kernel
theorem dX7_teach_19 : decode cX7_teach 19 = .ok (.invokestatic 48, 3) := by decide +kernel
theorem dX7_teach_22 : decode cX7_teach 22 = .ok (.ifCond .eq 7, 3) := by decide +kernel
theorem dX7_teach_25 : decode cX7_teach 25 = .ok (.iload_n 2, 1) := by decide +kernel
theorem dX7_teach_26 : decode cX7_teach 26 = .ok (.goto 4, 3) := by decide +kernel
theorem dX7_teach_29 : decode cX7_teach 29 = .ok (.iconst 0, 1) := by decide +kernel
theorem dX7_teach_30 : decode cX7_teach 30 = .ok (.ior, 1) := by decide +kernel
theorem dX7_teach_31 : decode cX7_teach 31 = .ok (.iastore, 1) := by decide +kernel
theorem dX7_teach_32 : decode cX7_teach 32 = .ok (.iinc 3 1, 3) := by decide +kernel
theorem dX7_teach_35 : decode cX7_teach 35 = .ok (.goto (-33), 3) := by decide +kernel
theorem dX7_teach_38 : decode cX7_teach 38 = .ok (.return_, 1) := by decide +kernel
set_option maxRecDepth 20000 in
theorem ggX7_unteach_X9_has : GoodIn wsX7_unteach wsX9_has := goodIn_r _ [5] (by decide +kernel) (by decide +kernel)
set_option maxRecDepth 20000 in
theorem gX7_unteach_X9_has_n48 : GoodIn wsX7_unteach (wsX9_has) := ggX7_unteach_X9_has
theorem dX7_unteach_0 : decode cX7_unteach 0 = .ok (.iconst 0, 1) := by decide +kernel
theorem dX7_unteach_1 : decode cX7_unteach 1 = .ok (.istore_n 3, 1) := by decide +kernel
theorem dX7_unteach_2 : decode cX7_unteach 2 = .ok (.iload_n 3, 1) := by decide +kernel
theorem dX7_unteach_3 : decode cX7_unteach 3 = .ok (.aload_n 0, 1) := by decide +kernel
theorem dX7_unteach_4 : decode cX7_unteach 4 = .ok (.getfield 9, 3) := by decide +kernel
theorem dX7_unteach_7 : decode cX7_unteach 7 = .ok (.if_icmp .ge 33, 3) := by decide +kernel
theorem dX7_unteach_10 : decode cX7_unteach 10 = .ok (.aload_n 0, 1) := by decide +kernel
theorem dX7_unteach_11 : decode cX7_unteach 11 = .ok (.getfield 19, 3) := by decide +kernel
theorem dX7_unteach_14 : decode cX7_unteach 14 = .ok (.iload_n 3, 1) := by decide +kernel
theorem dX7_unteach_15 : decode cX7_unteach 15 = .ok (.dup2, 1) := by decide +kernel
theorem dX7_unteach_16 : decode cX7_unteach 16 = .ok (.iaload, 1) := by decide +kernel
theorem dX7_unteach_17 : decode cX7_unteach 17 = .ok (.iload_n 1, 1) := by decide +kernel
theorem dX7_unteach_18 : decode cX7_unteach 18 = .ok (.iload_n 3, 1) := by decide +kernel
theorem dX7_unteach_19 : decode cX7_unteach 19 = .ok (.invokestatic 48, 3) := by decide +kernel
theorem dX7_unteach_22 : decode cX7_unteach 22 = .ok (.ifCond .eq 9, 3) := by decide +kernel
theorem dX7_unteach_25 : decode cX7_unteach 25 = .ok (.iload_n 2, 1) := by decide +kernel
theorem dX7_unteach_26 : decode cX7_unteach 26 = .ok (.iconst (-1), 1) := by decide +kernel
theorem dX7_unteach_27 : decode cX7_unteach 27 = .ok (.ixor, 1) := by decide +kernel
theorem dX7_unteach_28 : decode cX7_unteach 28 = .ok (.goto 4, 3) := by decide +kernel
theorem dX7_unteach_31 : decode cX7_unteach 31 = .ok (.iconst (-1), 1) := by decide +kernel
theorem dX7_unteach_32 : decode cX7_unteach 32 = .ok (.iand, 1) := by decide +kernel
theorem dX7_unteach_33 : decode cX7_unteach 33 = .ok (.iastore, 1) := by decide +kernel
theorem dX7_unteach_34 : decode cX7_unteach 34 = .ok (.iinc 3 1, 3) := by decide +kernel
theorem dX7_unteach_37 : decode cX7_unteach 37 = .ok (.goto (-35), 3) := by decide +kernel
theorem dX7_unteach_40 : decode cX7_unteach 40 = .ok (.return_, 1) := by decide +kernel
theorem dX7_takeOut_0 : decode cX7_takeOut 0 = .ok (.iload_n 1, 1) := by decide +kernel
theorem dX7_takeOut_1 : decode cX7_takeOut 1 = .ok (.istore_n 2, 1) := by decide +kernel
theorem dX7_takeOut_2 : decode cX7_takeOut 2 = .ok (.iload_n 2, 1) := by decide +kernel
theorem dX7_takeOut_3 : decode cX7_takeOut 3 = .ok (.iconst 1, 1) := by decide +kernel
theorem dX7_takeOut_4 : decode cX7_takeOut 4 = .ok (.iadd, 1) := by decide +kernel
theorem dX7_takeOut_5 : decode cX7_takeOut 5 = .ok (.aload_n 0, 1) := by decide +kernel
theorem dX7_takeOut_6 : decode cX7_takeOut 6 = .ok (.getfield 9, 3) := by decide +kernel
theorem dX7_takeOut_9 : decode cX7_takeOut 9 = .ok (.if_icmp .ge 37, 3) := by decide +kernel
theorem dX7_takeOut_12 : decode cX7_takeOut 12 = .ok (.aload_n 0, 1) := by decide +kernel
theorem dX7_takeOut_13 : decode cX7_takeOut 13 = .ok (.getfield 15, 3) := by decide +kernel
theorem dX7_takeOut_16 : decode cX7_takeOut 16 = .ok (.iload_n 2, 1) := by decide +kernel
theorem dX7_takeOut_17 : decode cX7_takeOut 17 = .ok (.aload_n 0, 1) := by decide +kernel
theorem dX7_takeOut_18 : decode cX7_takeOut 18 = .ok (.getfield 15, 3) := by decide +kernel
theorem dX7_takeOut_21 : decode cX7_takeOut 21 = .ok (.iload_n 2, 1) := by decide +kernel
theorem dX7_takeOut_22 : decode cX7_takeOut 22 = .ok (.iconst 1, 1) := by decide +kernel
theorem dX7_takeOut_23 : decode cX7_takeOut 23 = .ok (.iadd, 1) := by decide +kernel
theorem dX7_takeOut_24 : decode cX7_takeOut 24 = .ok (.iaload, 1) := by decide +kernel
theorem dX7_takeOut_25 : decode cX7_takeOut 25 = .ok (.iastore, 1) := by decide +kernel
theorem dX7_takeOut_26 : decode cX7_takeOut 26 = .ok (.aload_n 0, 1) := by decide +kernel
theorem dX7_takeOut_27 : decode cX7_takeOut 27 = .ok (.getfield 19, 3) := by decide +kernel
theorem dX7_takeOut_30 : decode cX7_takeOut 30 = .ok (.iload_n 2, 1) := by decide +kernel
theorem dX7_takeOut_31 : decode cX7_takeOut 31 = .ok (.aload_n 0, 1) := by decide +kernel
theorem dX7_takeOut_32 : decode cX7_takeOut 32 = .ok (.getfield 19, 3) := by decide +kernel
theorem dX7_takeOut_35 : decode cX7_takeOut 35 = .ok (.iload_n 2, 1) := by decide +kernel
theorem dX7_takeOut_36 : decode cX7_takeOut 36 = .ok (.iconst 1, 1) := by decide +kernel
theorem dX7_takeOut_37 : decode cX7_takeOut 37 = .ok (.iadd, 1) := by decide +kernel
theorem dX7_takeOut_38 : decode cX7_takeOut 38 = .ok (.iaload, 1) := by decide +kernel
theorem dX7_takeOut_39 : decode cX7_takeOut 39 = .ok (.iastore, 1) := by decide +kernel
theorem dX7_takeOut_40 : decode cX7_takeOut 40 = .ok (.iinc 2 1, 3) := by decide +kernel
theorem dX7_takeOut_43 : decode cX7_takeOut 43 = .ok (.goto (-41), 3) := by decide +kernel
theorem dX7_takeOut_46 : decode cX7_takeOut 46 = .ok (.aload_n 0, 1) := by decide +kernel
theorem dX7_takeOut_47 : decode cX7_takeOut 47 = .ok (.dup, 1) := by decide +kernel
theorem dX7_takeOut_48 : decode cX7_takeOut 48 = .ok (.getfield 9, 3) := by decide +kernel
theorem dX7_takeOut_51 : decode cX7_takeOut 51 = .ok (.iconst 1, 1) := by decide +kernel
theorem dX7_takeOut_52 : decode cX7_takeOut 52 = .ok (.isub, 1) := by decide +kernel
theorem dX7_takeOut_53 : decode cX7_takeOut 53 = .ok (.putfield 9, 3) := by decide +kernel
theorem dX7_takeOut_56 : decode cX7_takeOut 56 = .ok (.iconst 1, 1) := by decide +kernel
theorem dX7_takeOut_57 : decode cX7_takeOut 57 = .ok (.iload_n 1, 1) := by decide +kernel
theorem dX7_takeOut_58 : decode cX7_takeOut 58 = .ok (.ishl, 1) := by decide +kernel
theorem dX7_takeOut_59 : decode cX7_takeOut 59 = .ok (.iconst 1, 1) := by decide +kernel
theorem dX7_takeOut_60 : decode cX7_takeOut 60 = .ok (.isub, 1) := by decide +kernel
theorem dX7_takeOut_61 : decode cX7_takeOut 61 = .ok (.istore_n 2, 1) := by decide +kernel
theorem dX7_takeOut_62 : decode cX7_takeOut 62 = .ok (.iconst 0, 1) := by decide +kernel
theorem dX7_takeOut_63 : decode cX7_takeOut 63 = .ok (.istore_n 3, 1) := by decide +kernel
theorem dX7_takeOut_64 : decode cX7_takeOut 64 = .ok (.iload_n 3, 1) := by decide +kernel
theorem dX7_takeOut_65 : decode cX7_takeOut 65 = .ok (.aload_n 0, 1) := by decide +kernel
theorem dX7_takeOut_66 : decode cX7_takeOut 66 = .ok (.getfield 9, 3) := by decide +kernel
theorem dX7_takeOut_69 : decode cX7_takeOut 69 = .ok (.if_icmp .ge 36, 3) := by decide +kernel
theorem dX7_takeOut_72 : decode cX7_takeOut 72 = .ok (.aload_n 0, 1) := by decide +kernel
theorem dX7_takeOut_73 : decode cX7_takeOut 73 = .ok (.getfield 15, 3) := by decide +kernel
theorem dX7_takeOut_76 : decode cX7_takeOut 76 = .ok (.iload_n 3, 1) := by decide +kernel
theorem dX7_takeOut_77 : decode cX7_takeOut 77 = .ok (.aload_n 0, 1) := by decide +kernel
theorem dX7_takeOut_78 : decode cX7_takeOut 78 = .ok (.getfield 15, 3) := by decide +kernel
theorem dX7_takeOut_81 : decode cX7_takeOut 81 = .ok (.iload_n 3, 1) := by decide +kernel
theorem dX7_takeOut_82 : decode cX7_takeOut 82 = .ok (.iaload, 1) := by decide +kernel
theorem dX7_takeOut_83 : decode cX7_takeOut 83 = .ok (.iload_n 2, 1) := by decide +kernel
theorem dX7_takeOut_84 : decode cX7_takeOut 84 = .ok (.iand, 1) := by decide +kernel
theorem dX7_takeOut_85 : decode cX7_takeOut 85 = .ok (.aload_n 0, 1) := by decide +kernel
theorem dX7_takeOut_86 : decode cX7_takeOut 86 = .ok (.getfield 15, 3) := by decide +kernel
theorem dX7_takeOut_89 : decode cX7_takeOut 89 = .ok (.iload_n 3, 1) := by decide +kernel
theorem dX7_takeOut_90 : decode cX7_takeOut 90 = .ok (.iaload, 1) := by decide +kernel
theorem dX7_takeOut_91 : decode cX7_takeOut 91 = .ok (.iconst 1, 1) := by decide +kernel
theorem dX7_takeOut_92 : decode cX7_takeOut 92 = .ok (.ishr, 1) := by decide +kernel
theorem dX7_takeOut_93 : decode cX7_takeOut 93 = .ok (.iload_n 2, 1) := by decide +kernel
theorem dX7_takeOut_94 : decode cX7_takeOut 94 = .ok (.iconst (-1), 1) := by decide +kernel
theorem dX7_takeOut_95 : decode cX7_takeOut 95 = .ok (.ixor, 1) := by decide +kernel
theorem dX7_takeOut_96 : decode cX7_takeOut 96 = .ok (.iand, 1) := by decide +kernel
theorem dX7_takeOut_97 : decode cX7_takeOut 97 = .ok (.ior, 1) := by decide +kernel
theorem dX7_takeOut_98 : decode cX7_takeOut 98 = .ok (.iastore, 1) := by decide +kernel
theorem dX7_takeOut_99 : decode cX7_takeOut 99 = .ok (.iinc 3 1, 3) := by decide +kernel
theorem dX7_takeOut_102 : decode cX7_takeOut 102 = .ok (.goto (-38), 3) := by decide +kernel
theorem dX7_takeOut_105 : decode cX7_takeOut 105 = .ok (.return_, 1) := by decide +kernel
set_option maxRecDepth 20000 in
theorem ggX7_findLikes_X7_lowestSeenLike : GoodIn wsX7_findLikes wsX7_lowestSeenLike := goodIn_r _ [10, 2, 3, 18, 19, 20, 21, 22, 23, 24] (by decide +kernel) (by decide +kernel)
set_option maxRecDepth 20000 in
theorem gX7_findLikes_X7_lowestSeenLike : GoodIn wsX7_findLikes (wsV RX7 56 RX7 yX7_lowestSeenLike wsX7_lowestSeenLike) := goodIn_app (goodIn_of _ (by decide +kernel)) ggX7_findLikes_X7_lowestSeenLike
set_option maxRecDepth 20000 in
theorem ggX7_findLikes_X7_likesOf : GoodIn wsX7_findLikes wsX7_likesOf := goodIn_r _ [14, 1, 2, 15, 16, 17, 18, 19, 20, 21, 22, 23, 24] (by decide +kernel) (by decide +kernel)
set_option maxRecDepth 20000 in
theorem gX7_findLikes_X7_likesOf : GoodIn wsX7_findLikes (wsV RX7 59 RX7 yX7_likesOf wsX7_likesOf) := goodIn_app (goodIn_of _ (by decide +kernel)) ggX7_findLikes_X7_likesOf
theorem dX7_findLikes_0 : decode cX7_findLikes 0 = .ok (.iconst 0, 1) := by decide +kernel
theorem dX7_findLikes_1 : decode cX7_findLikes 1 = .ok (.istore_n 1, 1) := by decide +kernel
theorem dX7_findLikes_2 : decode cX7_findLikes 2 = .ok (.iload_n 1, 1) := by decide +kernel
theorem dX7_findLikes_3 : decode cX7_findLikes 3 = .ok (.aload_n 0, 1) := by decide +kernel
theorem dX7_findLikes_4 : decode cX7_findLikes 4 = .ok (.getfield 9, 3) := by decide +kernel
theorem dX7_findLikes_7 : decode cX7_findLikes 7 = .ok (.if_icmp .ge 28, 3) := by decide +kernel
theorem dX7_findLikes_10 : decode cX7_findLikes 10 = .ok (.aload_n 0, 1) := by decide +kernel
theorem dX7_findLikes_11 : decode cX7_findLikes 11 = .ok (.getfield 28, 3) := by decide +kernel
theorem dX7_findLikes_14 : decode cX7_findLikes 14 = .ok (.iload_n 1, 1) := by decide +kernel
theorem dX7_findLikes_15 : decode cX7_findLikes 15 = .ok (.iconst 0, 1) := by decide +kernel
theorem dX7_findLikes_16 : decode cX7_findLikes 16 = .ok (.iastore, 1) := by decide +kernel
theorem dX7_findLikes_17 : decode cX7_findLikes 17 = .ok (.aload_n 0, 1) := by decide +kernel
theorem dX7_findLikes_18 : decode cX7_findLikes 18 = .ok (.getfield 31, 3) := by decide +kernel
theorem dX7_findLikes_21 : decode cX7_findLikes 21 = .ok (.iload_n 1, 1) := by decide +kernel
theorem dX7_findLikes_22 : decode cX7_findLikes 22 = .ok (.aload_n 0, 1) := by decide +kernel
theorem dX7_findLikes_23 : decode cX7_findLikes 23 = .ok (.getfield 19, 3) := by decide +kernel
theorem dX7_findLikes_26 : decode cX7_findLikes 26 = .ok (.iload_n 1, 1) := by decide +kernel
theorem dX7_findLikes_27 : decode cX7_findLikes 27 = .ok (.iaload, 1) := by decide +kernel
theorem dX7_findLikes_28 : decode cX7_findLikes 28 = .ok (.iastore, 1) := by decide +kernel
theorem dX7_findLikes_29 : decode cX7_findLikes 29 = .ok (.iinc 1 1, 3) := by decide +kernel
theorem dX7_findLikes_32 : decode cX7_findLikes 32 = .ok (.goto (-30), 3) := by decide +kernel
theorem dX7_findLikes_35 : decode cX7_findLikes 35 = .ok (.iconst 0, 1) := by decide +kernel
theorem dX7_findLikes_36 : decode cX7_findLikes 36 = .ok (.istore_n 1, 1) := by decide +kernel
theorem dX7_findLikes_37 : decode cX7_findLikes 37 = .ok (.iload_n 1, 1) := by decide +kernel
theorem dX7_findLikes_38 : decode cX7_findLikes 38 = .ok (.aload_n 0, 1) := by decide +kernel
theorem dX7_findLikes_39 : decode cX7_findLikes 39 = .ok (.getfield 9, 3) := by decide +kernel
theorem dX7_findLikes_42 : decode cX7_findLikes 42 = .ok (.if_icmp .ge 69, 3) := by decide +kernel
theorem dX7_findLikes_45 : decode cX7_findLikes 45 = .ok (.aload_n 0, 1) := by decide +kernel
theorem dX7_findLikes_46 : decode cX7_findLikes 46 = .ok (.getfield 9, 3) := by decide +kernel
theorem dX7_findLikes_49 : decode cX7_findLikes 49 = .ok (.iconst 1, 1) := by decide +kernel
theorem dX7_findLikes_50 : decode cX7_findLikes 50 = .ok (.isub, 1) := by decide +kernel
theorem dX7_findLikes_51 : decode cX7_findLikes 51 = .ok (.istore_n 2, 1) := by decide +kernel
theorem dX7_findLikes_52 : decode cX7_findLikes 52 = .ok (.iload_n 2, 1) := by decide +kernel
theorem dX7_findLikes_53 : decode cX7_findLikes 53 = .ok (.ifCond .lt 20, 3) := by decide +kernel
theorem dX7_findLikes_56 : decode cX7_findLikes 56 = .ok (.aload_n 0, 1) := by decide +kernel
theorem dX7_findLikes_57 : decode cX7_findLikes 57 = .ok (.getfield 28, 3) := by decide +kernel
theorem dX7_findLikes_60 : decode cX7_findLikes 60 = .ok (.iload_n 2, 1) := by decide +kernel
theorem dX7_findLikes_61 : decode cX7_findLikes 61 = .ok (.aload_n 0, 1) := by decide +kernel
theorem dX7_findLikes_62 : decode cX7_findLikes 62 = .ok (.iload_n 2, 1) := by decide +kernel
theorem dX7_findLikes_63 : decode cX7_findLikes 63 = .ok (.invokevirtual 56, 3) := by decide +kernel
theorem dX7_findLikes_66 : decode cX7_findLikes 66 = .ok (.iastore, 1) := by decide +kernel
theorem dX7_findLikes_67 : decode cX7_findLikes 67 = .ok (.iinc 2 (-1), 3) := by decide +kernel
theorem dX7_findLikes_70 : decode cX7_findLikes 70 = .ok (.goto (-18), 3) := by decide +kernel
theorem dX7_findLikes_73 : decode cX7_findLikes 73 = .ok (.iconst 0, 1) := by decide +kernel
theorem dX7_findLikes_74 : decode cX7_findLikes 74 = .ok (.istore_n 2, 1) := by decide +kernel
theorem dX7_findLikes_75 : decode cX7_findLikes 75 = .ok (.iload_n 2, 1) := by decide +kernel
theorem dX7_findLikes_76 : decode cX7_findLikes 76 = .ok (.aload_n 0, 1) := by decide +kernel
theorem dX7_findLikes_77 : decode cX7_findLikes 77 = .ok (.getfield 9, 3) := by decide +kernel
theorem dX7_findLikes_80 : decode cX7_findLikes 80 = .ok (.if_icmp .ge 25, 3) := by decide +kernel
theorem dX7_findLikes_83 : decode cX7_findLikes 83 = .ok (.aload_n 0, 1) := by decide +kernel
theorem dX7_findLikes_84 : decode cX7_findLikes 84 = .ok (.getfield 31, 3) := by decide +kernel
theorem dX7_findLikes_87 : decode cX7_findLikes 87 = .ok (.iload_n 2, 1) := by decide +kernel
theorem dX7_findLikes_88 : decode cX7_findLikes 88 = .ok (.aload_n 0, 1) := by decide +kernel
theorem dX7_findLikes_89 : decode cX7_findLikes 89 = .ok (.aload_n 0, 1) := by decide +kernel
theorem dX7_findLikes_90 : decode cX7_findLikes 90 = .ok (.getfield 15, 3) := by decide +kernel
theorem dX7_findLikes_93 : decode cX7_findLikes 93 = .ok (.iload_n 2, 1) := by decide +kernel
theorem dX7_findLikes_94 : decode cX7_findLikes 94 = .ok (.iaload, 1) := by decide +kernel
theorem dX7_findLikes_95 : decode cX7_findLikes 95 = .ok (.invokevirtual 59, 3) := by decide +kernel
theorem dX7_findLikes_98 : decode cX7_findLikes 98 = .ok (.iastore, 1) := by decide +kernel
theorem dX7_findLikes_99 : decode cX7_findLikes 99 = .ok (.iinc 2 1, 3) := by decide +kernel
theorem dX7_findLikes_102 : decode cX7_findLikes 102 = .ok (.goto (-27), 3) := by decide +kernel
theorem dX7_findLikes_105 : decode cX7_findLikes 105 = .ok (.iinc 1 1, 3) := by decide +kernel
theorem dX7_findLikes_108 : decode cX7_findLikes 108 = .ok (.goto (-71), 3) := by decide +kernel
theorem dX7_findLikes_111 : decode cX7_findLikes 111 = .ok (.return_, 1) := by decide +kernel
theorem dX7_lowestSeenLike_0 : decode cX7_lowestSeenLike 0 = .ok (.iconst 0, 1) := by decide +kernel
theorem dX7_lowestSeenLike_1 : decode cX7_lowestSeenLike 1 = .ok (.istore_n 2, 1) := by decide +kernel
theorem dX7_lowestSeenLike_2 : decode cX7_lowestSeenLike 2 = .ok (.iload_n 2, 1) := by decide +kernel
theorem dX7_lowestSeenLike_3 : decode cX7_lowestSeenLike 3 = .ok (.iload_n 1, 1) := by decide +kernel
theorem dX7_lowestSeenLike_4 : decode cX7_lowestSeenLike 4 = .ok (.if_icmp .ge 41, 3) := by decide +kernel
theorem dX7_lowestSeenLike_7 : decode cX7_lowestSeenLike 7 = .ok (.aload_n 0, 1) := by decide +kernel
theorem dX7_lowestSeenLike_8 : decode cX7_lowestSeenLike 8 = .ok (.getfield 28, 3) := by decide +kernel
theorem dX7_lowestSeenLike_11 : decode cX7_lowestSeenLike 11 = .ok (.iload_n 2, 1) := by decide +kernel
theorem dX7_lowestSeenLike_12 : decode cX7_lowestSeenLike 12 = .ok (.iaload, 1) := by decide +kernel
theorem dX7_lowestSeenLike_13 : decode cX7_lowestSeenLike 13 = .ok (.aload_n 0, 1) := by decide +kernel
theorem dX7_lowestSeenLike_14 : decode cX7_lowestSeenLike 14 = .ok (.getfield 28, 3) := by decide +kernel
theorem dX7_lowestSeenLike_17 : decode cX7_lowestSeenLike 17 = .ok (.iload_n 1, 1) := by decide +kernel
theorem dX7_lowestSeenLike_18 : decode cX7_lowestSeenLike 18 = .ok (.iaload, 1) := by decide +kernel
theorem dX7_lowestSeenLike_19 : decode cX7_lowestSeenLike 19 = .ok (.if_icmp .ne 20, 3) := by decide +kernel
theorem dX7_lowestSeenLike_22 : decode cX7_lowestSeenLike 22 = .ok (.aload_n 0, 1) := by decide +kernel
theorem dX7_lowestSeenLike_23 : decode cX7_lowestSeenLike 23 = .ok (.getfield 31, 3) := by decide +kernel
theorem dX7_lowestSeenLike_26 : decode cX7_lowestSeenLike 26 = .ok (.iload_n 2, 1) := by decide +kernel
theorem dX7_lowestSeenLike_27 : decode cX7_lowestSeenLike 27 = .ok (.iaload, 1) := by decide +kernel
theorem dX7_lowestSeenLike_28 : decode cX7_lowestSeenLike 28 = .ok (.aload_n 0, 1) := by decide +kernel
theorem dX7_lowestSeenLike_29 : decode cX7_lowestSeenLike 29 = .ok (.getfield 31, 3) := by decide +kernel
theorem dX7_lowestSeenLike_32 : decode cX7_lowestSeenLike 32 = .ok (.iload_n 1, 1) := by decide +kernel
theorem dX7_lowestSeenLike_33 : decode cX7_lowestSeenLike 33 = .ok (.iaload, 1) := by decide +kernel
theorem dX7_lowestSeenLike_34 : decode cX7_lowestSeenLike 34 = .ok (.if_icmp .ne 5, 3) := by decide +kernel
theorem dX7_lowestSeenLike_37 : decode cX7_lowestSeenLike 37 = .ok (.iload_n 2, 1) := by decide +kernel
theorem dX7_lowestSeenLike_38 : decode cX7_lowestSeenLike 38 = .ok (.ireturn, 1) := by decide +kernel
theorem dX7_lowestSeenLike_39 : decode cX7_lowestSeenLike 39 = .ok (.iinc 2 1, 3) := by decide +kernel
theorem dX7_lowestSeenLike_42 : decode cX7_lowestSeenLike 42 = .ok (.goto (-40), 3) := by decide +kernel
theorem dX7_lowestSeenLike_45 : decode cX7_lowestSeenLike 45 = .ok (.iload_n 1, 1) := by decide +kernel
theorem dX7_lowestSeenLike_46 : decode cX7_lowestSeenLike 46 = .ok (.ireturn, 1) := by decide +kernel
set_option maxRecDepth 20000 in
theorem ggX7_likesOf_X9_has : GoodIn wsX7_likesOf wsX9_has := goodIn_r _ [5] (by decide +kernel) (by decide +kernel)
set_option maxRecDepth 20000 in
theorem gX7_likesOf_X9_has_n48 : GoodIn wsX7_likesOf (wsX9_has) := ggX7_likesOf_X9_has
theorem dX7_likesOf_0 : decode cX7_likesOf 0 = .ok (.iconst 0, 1) := by decide +kernel
theorem dX7_likesOf_1 : decode cX7_likesOf 1 = .ok (.istore_n 2, 1) := by decide +kernel
theorem dX7_likesOf_2 : decode cX7_likesOf 2 = .ok (.iconst 0, 1) := by decide +kernel
theorem dX7_likesOf_3 : decode cX7_likesOf 3 = .ok (.istore_n 3, 1) := by decide +kernel
theorem dX7_likesOf_4 : decode cX7_likesOf 4 = .ok (.iload_n 3, 1) := by decide +kernel
theorem dX7_likesOf_5 : decode cX7_likesOf 5 = .ok (.aload_n 0, 1) := by decide +kernel
theorem dX7_likesOf_6 : decode cX7_likesOf 6 = .ok (.getfield 9, 3) := by decide +kernel
theorem dX7_likesOf_9 : decode cX7_likesOf 9 = .ok (.if_icmp .ge 32, 3) := by decide +kernel
theorem dX7_likesOf_12 : decode cX7_likesOf 12 = .ok (.iload_n 2, 1) := by decide +kernel
theorem dX7_likesOf_13 : decode cX7_likesOf 13 = .ok (.iload_n 1, 1) := by decide +kernel
theorem dX7_likesOf_14 : decode cX7_likesOf 14 = .ok (.iload_n 3, 1) := by decide +kernel
theorem dX7_likesOf_15 : decode cX7_likesOf 15 = .ok (.invokestatic 48, 3) := by decide +kernel
theorem dX7_likesOf_18 : decode cX7_likesOf 18 = .ok (.ifCond .eq 14, 3) := by decide +kernel
theorem dX7_likesOf_21 : decode cX7_likesOf 21 = .ok (.iconst 1, 1) := by decide +kernel
theorem dX7_likesOf_22 : decode cX7_likesOf 22 = .ok (.aload_n 0, 1) := by decide +kernel
theorem dX7_likesOf_23 : decode cX7_likesOf 23 = .ok (.getfield 28, 3) := by decide +kernel
theorem dX7_likesOf_26 : decode cX7_likesOf 26 = .ok (.iload_n 3, 1) := by decide +kernel
theorem dX7_likesOf_27 : decode cX7_likesOf 27 = .ok (.iaload, 1) := by decide +kernel
theorem dX7_likesOf_28 : decode cX7_likesOf 28 = .ok (.ishl, 1) := by decide +kernel
theorem dX7_likesOf_29 : decode cX7_likesOf 29 = .ok (.goto 4, 3) := by decide +kernel
theorem dX7_likesOf_32 : decode cX7_likesOf 32 = .ok (.iconst 0, 1) := by decide +kernel
theorem dX7_likesOf_33 : decode cX7_likesOf 33 = .ok (.ior, 1) := by decide +kernel
theorem dX7_likesOf_34 : decode cX7_likesOf 34 = .ok (.istore_n 2, 1) := by decide +kernel
theorem dX7_likesOf_35 : decode cX7_likesOf 35 = .ok (.iinc 3 1, 3) := by decide +kernel
theorem dX7_likesOf_38 : decode cX7_likesOf 38 = .ok (.goto (-34), 3) := by decide +kernel
theorem dX7_likesOf_41 : decode cX7_likesOf 41 = .ok (.iload_n 2, 1) := by decide +kernel
theorem dX7_likesOf_42 : decode cX7_likesOf 42 = .ok (.ireturn, 1) := by decide +kernel
set_option maxRecDepth 20000 in
theorem ggX7_unlike_X9_truth : GoodIn wsX7_unlike wsX9_truth := goodIn_r _ [5] (by decide +kernel) (by decide +kernel)
set_option maxRecDepth 20000 in
theorem gX7_unlike_X9_truth_n62 : GoodIn wsX7_unlike (wsX9_truth) := ggX7_unlike_X9_truth
theorem dX7_unlike_0 : decode cX7_unlike 0 = .ok (.iconst 0, 1) := by decide +kernel
theorem dX7_unlike_1 : decode cX7_unlike 1 = .ok (.istore_n 1, 1) := by decide +kernel
theorem dX7_unlike_2 : decode cX7_unlike 2 = .ok (.iconst 0, 1) := by decide +kernel
theorem dX7_unlike_3 : decode cX7_unlike 3 = .ok (.istore_n 2, 1) := by decide +kernel
theorem dX7_unlike_4 : decode cX7_unlike 4 = .ok (.iload_n 2, 1) := by decide +kernel
theorem dX7_unlike_5 : decode cX7_unlike 5 = .ok (.aload_n 0, 1) := by decide +kernel
theorem dX7_unlike_6 : decode cX7_unlike 6 = .ok (.getfield 9, 3) := by decide +kernel
theorem dX7_unlike_9 : decode cX7_unlike 9 = .ok (.if_icmp .ge 30, 3) := by decide +kernel
theorem dX7_unlike_12 : decode cX7_unlike 12 = .ok (.iload_n 1, 1) := by decide +kernel
theorem dX7_unlike_13 : decode cX7_unlike 13 = .ok (.aload_n 0, 1) := by decide +kernel
theorem dX7_unlike_14 : decode cX7_unlike 14 = .ok (.getfield 28, 3) := by decide +kernel
theorem dX7_unlike_17 : decode cX7_unlike 17 = .ok (.iload_n 2, 1) := by decide +kernel
theorem dX7_unlike_18 : decode cX7_unlike 18 = .ok (.iaload, 1) := by decide +kernel
theorem dX7_unlike_19 : decode cX7_unlike 19 = .ok (.iload_n 2, 1) := by decide +kernel
theorem dX7_unlike_20 : decode cX7_unlike 20 = .ok (.if_icmp .ne 7, 3) := by decide +kernel
theorem dX7_unlike_23 : decode cX7_unlike 23 = .ok (.iconst 1, 1) := by decide +kernel
theorem dX7_unlike_24 : decode cX7_unlike 24 = .ok (.goto 4, 3) := by decide +kernel
theorem dX7_unlike_27 : decode cX7_unlike 27 = .ok (.iconst 0, 1) := by decide +kernel
theorem dX7_unlike_28 : decode cX7_unlike 28 = .ok (.invokestatic 62, 3) := by decide +kernel
theorem dX7_unlike_31 : decode cX7_unlike 31 = .ok (.iadd, 1) := by decide +kernel
theorem dX7_unlike_32 : decode cX7_unlike 32 = .ok (.istore_n 1, 1) := by decide +kernel
theorem dX7_unlike_33 : decode cX7_unlike 33 = .ok (.iinc 2 1, 3) := by decide +kernel
theorem dX7_unlike_36 : decode cX7_unlike 36 = .ok (.goto (-32), 3) := by decide +kernel
theorem dX7_unlike_39 : decode cX7_unlike 39 = .ok (.iload_n 1, 1) := by decide +kernel
theorem dX7_unlike_40 : decode cX7_unlike 40 = .ok (.ireturn, 1) := by decide +kernel
set_option maxRecDepth 20000 in
theorem ggX7_mergeLeadsBack_X7_likesOf : GoodIn wsX7_mergeLeadsBack wsX7_likesOf := goodIn_r _ [8, 1, 2, 9, 10, 11, 12, 13, 14, 15, 16, 17, 18] (by decide +kernel) (by decide +kernel)
set_option maxRecDepth 20000 in
theorem gX7_mergeLeadsBack_X7_likesOf : GoodIn wsX7_mergeLeadsBack (wsV RX7 59 RX7 yX7_likesOf wsX7_likesOf) := goodIn_app (goodIn_of _ (by decide +kernel)) ggX7_mergeLeadsBack_X7_likesOf
theorem dX7_mergeLeadsBack_0 : decode cX7_mergeLeadsBack 0 = .ok (.iconst 0, 1) := by decide +kernel
theorem dX7_mergeLeadsBack_1 : decode cX7_mergeLeadsBack 1 = .ok (.istore_n 1, 1) := by decide +kernel
theorem dX7_mergeLeadsBack_2 : decode cX7_mergeLeadsBack 2 = .ok (.iload_n 1, 1) := by decide +kernel
theorem dX7_mergeLeadsBack_3 : decode cX7_mergeLeadsBack 3 = .ok (.aload_n 0, 1) := by decide +kernel
theorem dX7_mergeLeadsBack_4 : decode cX7_mergeLeadsBack 4 = .ok (.getfield 9, 3) := by decide +kernel
theorem dX7_mergeLeadsBack_7 : decode cX7_mergeLeadsBack 7 = .ok (.if_icmp .ge 40, 3) := by decide +kernel
theorem dX7_mergeLeadsBack_10 : decode cX7_mergeLeadsBack 10 = .ok (.aload_n 0, 1) := by decide +kernel
theorem dX7_mergeLeadsBack_11 : decode cX7_mergeLeadsBack 11 = .ok (.getfield 28, 3) := by decide +kernel
theorem dX7_mergeLeadsBack_14 : decode cX7_mergeLeadsBack 14 = .ok (.iload_n 1, 1) := by decide +kernel
theorem dX7_mergeLeadsBack_15 : decode cX7_mergeLeadsBack 15 = .ok (.iaload, 1) := by decide +kernel
theorem dX7_mergeLeadsBack_16 : decode cX7_mergeLeadsBack 16 = .ok (.iload_n 1, 1) := by decide +kernel
theorem dX7_mergeLeadsBack_17 : decode cX7_mergeLeadsBack 17 = .ok (.if_icmp .ne 24, 3) := by decide +kernel
theorem dX7_mergeLeadsBack_20 : decode cX7_mergeLeadsBack 20 = .ok (.aload_n 0, 1) := by decide +kernel
theorem dX7_mergeLeadsBack_21 : decode cX7_mergeLeadsBack 21 = .ok (.aload_n 0, 1) := by decide +kernel
theorem dX7_mergeLeadsBack_22 : decode cX7_mergeLeadsBack 22 = .ok (.getfield 15, 3) := by decide +kernel
theorem dX7_mergeLeadsBack_25 : decode cX7_mergeLeadsBack 25 = .ok (.iload_n 1, 1) := by decide +kernel
theorem dX7_mergeLeadsBack_26 : decode cX7_mergeLeadsBack 26 = .ok (.iaload, 1) := by decide +kernel
theorem dX7_mergeLeadsBack_27 : decode cX7_mergeLeadsBack 27 = .ok (.invokevirtual 59, 3) := by decide +kernel
theorem dX7_mergeLeadsBack_30 : decode cX7_mergeLeadsBack 30 = .ok (.iconst 1, 1) := by decide +kernel
theorem dX7_mergeLeadsBack_31 : decode cX7_mergeLeadsBack 31 = .ok (.iload_n 1, 1) := by decide +kernel
theorem dX7_mergeLeadsBack_32 : decode cX7_mergeLeadsBack 32 = .ok (.ishl, 1) := by decide +kernel
theorem dX7_mergeLeadsBack_33 : decode cX7_mergeLeadsBack 33 = .ok (.iconst 1, 1) := by decide +kernel
theorem dX7_mergeLeadsBack_34 : decode cX7_mergeLeadsBack 34 = .ok (.isub, 1) := by decide +kernel
theorem dX7_mergeLeadsBack_35 : decode cX7_mergeLeadsBack 35 = .ok (.iand, 1) := by decide +kernel
theorem dX7_mergeLeadsBack_36 : decode cX7_mergeLeadsBack 36 = .ok (.ifCond .eq 5, 3) := by decide +kernel
theorem dX7_mergeLeadsBack_39 : decode cX7_mergeLeadsBack 39 = .ok (.iconst 1, 1) := by decide +kernel
theorem dX7_mergeLeadsBack_40 : decode cX7_mergeLeadsBack 40 = .ok (.ireturn, 1) := by decide +kernel
theorem dX7_mergeLeadsBack_41 : decode cX7_mergeLeadsBack 41 = .ok (.iinc 1 1, 3) := by decide +kernel
theorem dX7_mergeLeadsBack_44 : decode cX7_mergeLeadsBack 44 = .ok (.goto (-42), 3) := by decide +kernel
theorem dX7_mergeLeadsBack_47 : decode cX7_mergeLeadsBack 47 = .ok (.iconst 0, 1) := by decide +kernel
theorem dX7_mergeLeadsBack_48 : decode cX7_mergeLeadsBack 48 = .ok (.ireturn, 1) := by decide +kernel
set_option maxRecDepth 20000 in
theorem ggX7_merge_X7_likesOf : GoodIn wsX7_merge wsX7_likesOf := goodIn_r _ [8, 1, 3, 9, 10, 11, 17, 18, 19, 20, 21, 22, 23] (by decide +kernel) (by decide +kernel)
set_option maxRecDepth 20000 in
theorem gX7_merge_X7_likesOf : GoodIn wsX7_merge (wsV RX7 59 RX7 yX7_likesOf wsX7_likesOf) := goodIn_app (goodIn_of _ (by decide +kernel)) ggX7_merge_X7_likesOf
set_option maxRecDepth 20000 in
theorem ggX7_merge_X7_takeOut : GoodIn wsX7_merge wsX7_takeOut := goodIn_r _ [15, 1, 2, 16, 17, 18, 19, 20, 21, 22, 23] (by decide +kernel) (by decide +kernel)
set_option maxRecDepth 20000 in
theorem gX7_merge_X7_takeOut : GoodIn wsX7_merge (wsV RX7 66 RX7 yX7_takeOut wsX7_takeOut) := goodIn_app (goodIn_of _ (by decide +kernel)) ggX7_merge_X7_takeOut
theorem dX7_merge_0 : decode cX7_merge 0 = .ok (.iconst 0, 1) := by decide +kernel
theorem dX7_merge_1 : decode cX7_merge 1 = .ok (.istore_n 1, 1) := by decide +kernel
theorem dX7_merge_2 : decode cX7_merge 2 = .ok (.iload_n 1, 1) := by decide +kernel
theorem dX7_merge_3 : decode cX7_merge 3 = .ok (.aload_n 0, 1) := by decide +kernel
theorem dX7_merge_4 : decode cX7_merge 4 = .ok (.getfield 9, 3) := by decide +kernel
theorem dX7_merge_7 : decode cX7_merge 7 = .ok (.if_icmp .ge 25, 3) := by decide +kernel
theorem dX7_merge_10 : decode cX7_merge 10 = .ok (.aload_n 0, 1) := by decide +kernel
theorem dX7_merge_11 : decode cX7_merge 11 = .ok (.getfield 15, 3) := by decide +kernel
theorem dX7_merge_14 : decode cX7_merge 14 = .ok (.iload_n 1, 1) := by decide +kernel
theorem dX7_merge_15 : decode cX7_merge 15 = .ok (.aload_n 0, 1) := by decide +kernel
theorem dX7_merge_16 : decode cX7_merge 16 = .ok (.aload_n 0, 1) := by decide +kernel
theorem dX7_merge_17 : decode cX7_merge 17 = .ok (.getfield 15, 3) := by decide +kernel
theorem dX7_merge_20 : decode cX7_merge 20 = .ok (.iload_n 1, 1) := by decide +kernel
theorem dX7_merge_21 : decode cX7_merge 21 = .ok (.iaload, 1) := by decide +kernel
theorem dX7_merge_22 : decode cX7_merge 22 = .ok (.invokevirtual 59, 3) := by decide +kernel
theorem dX7_merge_25 : decode cX7_merge 25 = .ok (.iastore, 1) := by decide +kernel
theorem dX7_merge_26 : decode cX7_merge 26 = .ok (.iinc 1 1, 3) := by decide +kernel
theorem dX7_merge_29 : decode cX7_merge 29 = .ok (.goto (-27), 3) := by decide +kernel
theorem dX7_merge_32 : decode cX7_merge 32 = .ok (.aload_n 0, 1) := by decide +kernel
theorem dX7_merge_33 : decode cX7_merge 33 = .ok (.getfield 9, 3) := by decide +kernel
theorem dX7_merge_36 : decode cX7_merge 36 = .ok (.iconst 1, 1) := by decide +kernel
theorem dX7_merge_37 : decode cX7_merge 37 = .ok (.isub, 1) := by decide +kernel
theorem dX7_merge_38 : decode cX7_merge 38 = .ok (.istore_n 1, 1) := by decide +kernel
theorem dX7_merge_39 : decode cX7_merge 39 = .ok (.iload_n 1, 1) := by decide +kernel
theorem dX7_merge_40 : decode cX7_merge 40 = .ok (.ifCond .lt 24, 3) := by decide +kernel
theorem dX7_merge_43 : decode cX7_merge 43 = .ok (.aload_n 0, 1) := by decide +kernel
theorem dX7_merge_44 : decode cX7_merge 44 = .ok (.getfield 28, 3) := by decide +kernel
theorem dX7_merge_47 : decode cX7_merge 47 = .ok (.iload_n 1, 1) := by decide +kernel
theorem dX7_merge_48 : decode cX7_merge 48 = .ok (.iaload, 1) := by decide +kernel
theorem dX7_merge_49 : decode cX7_merge 49 = .ok (.iload_n 1, 1) := by decide +kernel
theorem dX7_merge_50 : decode cX7_merge 50 = .ok (.if_icmp .eq 8, 3) := by decide +kernel
theorem dX7_merge_53 : decode cX7_merge 53 = .ok (.aload_n 0, 1) := by decide +kernel
theorem dX7_merge_54 : decode cX7_merge 54 = .ok (.iload_n 1, 1) := by decide +kernel
theorem dX7_merge_55 : decode cX7_merge 55 = .ok (.invokevirtual 66, 3) := by decide +kernel
theorem dX7_merge_58 : decode cX7_merge 58 = .ok (.iinc 1 (-1), 3) := by decide +kernel
theorem dX7_merge_61 : decode cX7_merge 61 = .ok (.goto (-22), 3) := by decide +kernel
theorem dX7_merge_64 : decode cX7_merge 64 = .ok (.return_, 1) := by decide +kernel
set_option maxRecDepth 20000 in
theorem ggX7_lowestOutside_X9_has : GoodIn wsX7_lowestOutside wsX9_has := goodIn_r _ [4] (by decide +kernel) (by decide +kernel)
set_option maxRecDepth 20000 in
theorem gX7_lowestOutside_X9_has_n48 : GoodIn wsX7_lowestOutside (wsX9_has) := ggX7_lowestOutside_X9_has
theorem dX7_lowestOutside_0 : decode cX7_lowestOutside 0 = .ok (.iconst 0, 1) := by decide +kernel
theorem dX7_lowestOutside_1 : decode cX7_lowestOutside 1 = .ok (.istore_n 2, 1) := by decide +kernel
theorem dX7_lowestOutside_2 : decode cX7_lowestOutside 2 = .ok (.iload_n 2, 1) := by decide +kernel
theorem dX7_lowestOutside_3 : decode cX7_lowestOutside 3 = .ok (.aload_n 0, 1) := by decide +kernel
theorem dX7_lowestOutside_4 : decode cX7_lowestOutside 4 = .ok (.getfield 9, 3) := by decide +kernel
theorem dX7_lowestOutside_7 : decode cX7_lowestOutside 7 = .ok (.if_icmp .ge 19, 3) := by decide +kernel
theorem dX7_lowestOutside_10 : decode cX7_lowestOutside 10 = .ok (.iload_n 1, 1) := by decide +kernel
theorem dX7_lowestOutside_11 : decode cX7_lowestOutside 11 = .ok (.iload_n 2, 1) := by decide +kernel
theorem dX7_lowestOutside_12 : decode cX7_lowestOutside 12 = .ok (.invokestatic 48, 3) := by decide +kernel
theorem dX7_lowestOutside_15 : decode cX7_lowestOutside 15 = .ok (.ifCond .ne 5, 3) := by decide +kernel
theorem dX7_lowestOutside_18 : decode cX7_lowestOutside 18 = .ok (.iload_n 2, 1) := by decide +kernel
theorem dX7_lowestOutside_19 : decode cX7_lowestOutside 19 = .ok (.ireturn, 1) := by decide +kernel
theorem dX7_lowestOutside_20 : decode cX7_lowestOutside 20 = .ok (.iinc 2 1, 3) := by decide +kernel
theorem dX7_lowestOutside_23 : decode cX7_lowestOutside 23 = .ok (.goto (-21), 3) := by decide +kernel
theorem dX7_lowestOutside_26 : decode cX7_lowestOutside 26 = .ok (.bipush (-5), 2) := by decide +kernel
theorem dX7_lowestOutside_28 : decode cX7_lowestOutside 28 = .ok (.ireturn, 1) := by decide +kernel
set_option maxRecDepth 20000 in
theorem ggX7_stagesWith_X9_at : GoodIn wsX7_stagesWith wsX9_at := goodIn_r _ [8] (by decide +kernel) (by decide +kernel)
set_option maxRecDepth 20000 in
theorem gX7_stagesWith_X9_at_n76 : GoodIn wsX7_stagesWith (wsX9_at) := ggX7_stagesWith_X9_at
set_option maxRecDepth 20000 in
theorem ggX7_stagesWith_X7_knowing : GoodIn wsX7_stagesWith wsX7_knowing := goodIn_r _ [13, 14, 15, 33, 34, 35, 36, 37, 38, 39] (by decide +kernel) (by decide +kernel)
set_option maxRecDepth 20000 in
theorem gX7_stagesWith_X7_knowing : GoodIn wsX7_stagesWith (wsV RX7 86 RX7 yX7_knowing wsX7_knowing) := goodIn_app (goodIn_of _ (by decide +kernel)) ggX7_stagesWith_X7_knowing
set_option maxRecDepth 20000 in
theorem ggX7_stagesWith_X7_all : GoodIn wsX7_stagesWith wsX7_all := goodIn_r _ [19, 14, 33, 34, 35, 36, 37, 38, 39] (by decide +kernel) (by decide +kernel)
set_option maxRecDepth 20000 in
theorem gX7_stagesWith_X7_all : GoodIn wsX7_stagesWith (wsV RX7 89 RX7 yX7_all wsX7_all) := goodIn_app (goodIn_of _ (by decide +kernel)) ggX7_stagesWith_X7_all
set_option maxRecDepth 20000 in
theorem ggX7_stagesWith_X7_stagesAlwaysOutside : GoodIn wsX7_stagesWith wsX7_stagesAlwaysOutside := goodIn_r _ [23, 14, 24, 33, 34, 35, 36, 37, 38, 39] (by decide +kernel) (by decide +kernel)
set_option maxRecDepth 20000 in
theorem gX7_stagesWith_X7_stagesAlwaysOutside : GoodIn wsX7_stagesWith (wsV RX7 93 RX7 yX7_stagesAlwaysOutside wsX7_stagesAlwaysOutside) := goodIn_app (goodIn_of _ (by decide +kernel)) ggX7_stagesWith_X7_stagesAlwaysOutside
theorem dX7_stagesWith_0 : decode cX7_stagesWith 0 = .ok (.iconst 0, 1) := by decide +kernel
theorem dX7_stagesWith_1 : decode cX7_stagesWith 1 = .ok (.istore_n 3, 1) := by decide +kernel
theorem dX7_stagesWith_2 : decode cX7_stagesWith 2 = .ok (.iload_n 3, 1) := by decide +kernel
theorem dX7_stagesWith_3 : decode cX7_stagesWith 3 = .ok (.aload_n 1, 1) := by decide +kernel
theorem dX7_stagesWith_4 : decode cX7_stagesWith 4 = .ok (.getfield 70, 3) := by decide +kernel
theorem dX7_stagesWith_7 : decode cX7_stagesWith 7 = .ok (.if_icmp .ge 132, 3) := by decide +kernel
theorem dX7_stagesWith_10 : decode cX7_stagesWith 10 = .ok (.aload_n 0, 1) := by decide +kernel
theorem dX7_stagesWith_11 : decode cX7_stagesWith 11 = .ok (.getfield 36, 3) := by decide +kernel
theorem dX7_stagesWith_14 : decode cX7_stagesWith 14 = .ok (.aload_n 1, 1) := by decide +kernel
theorem dX7_stagesWith_15 : decode cX7_stagesWith 15 = .ok (.getfield 73, 3) := by decide +kernel
theorem dX7_stagesWith_18 : decode cX7_stagesWith 18 = .ok (.iload_n 3, 1) := by decide +kernel
theorem dX7_stagesWith_19 : decode cX7_stagesWith 19 = .ok (.iaload, 1) := by decide +kernel
theorem dX7_stagesWith_20 : decode cX7_stagesWith 20 = .ok (.invokestatic 76, 3) := by decide +kernel
theorem dX7_stagesWith_23 : decode cX7_stagesWith 23 = .ok (.istore 4, 2) := by decide +kernel
theorem dX7_stagesWith_25 : decode cX7_stagesWith 25 = .ok (.aload_n 0, 1) := by decide +kernel
theorem dX7_stagesWith_26 : decode cX7_stagesWith 26 = .ok (.getfield 36, 3) := by decide +kernel
theorem dX7_stagesWith_29 : decode cX7_stagesWith 29 = .ok (.aload_n 1, 1) := by decide +kernel
theorem dX7_stagesWith_30 : decode cX7_stagesWith 30 = .ok (.getfield 80, 3) := by decide +kernel
theorem dX7_stagesWith_33 : decode cX7_stagesWith 33 = .ok (.iload_n 3, 1) := by decide +kernel
theorem dX7_stagesWith_34 : decode cX7_stagesWith 34 = .ok (.iaload, 1) := by decide +kernel
theorem dX7_stagesWith_35 : decode cX7_stagesWith 35 = .ok (.invokestatic 76, 3) := by decide +kernel
theorem dX7_stagesWith_38 : decode cX7_stagesWith 38 = .ok (.istore 5, 2) := by decide +kernel
theorem dX7_stagesWith_40 : decode cX7_stagesWith 40 = .ok (.aload_n 1, 1) := by decide +kernel
theorem dX7_stagesWith_41 : decode cX7_stagesWith 41 = .ok (.getfield 83, 3) := by decide +kernel
theorem dX7_stagesWith_44 : decode cX7_stagesWith 44 = .ok (.iload_n 3, 1) := by decide +kernel
theorem dX7_stagesWith_45 : decode cX7_stagesWith 45 = .ok (.iaload, 1) := by decide +kernel
theorem dX7_stagesWith_46 : decode cX7_stagesWith 46 = .ok (.istore 6, 2) := by decide +kernel
theorem dX7_stagesWith_48 : decode cX7_stagesWith 48 = .ok (.aload_n 0, 1) := by decide +kernel
theorem dX7_stagesWith_49 : decode cX7_stagesWith 49 = .ok (.getfield 36, 3) := by decide +kernel
theorem dX7_stagesWith_52 : decode cX7_stagesWith 52 = .ok (.iload_n 3, 1) := by decide +kernel
theorem dX7_stagesWith_53 : decode cX7_stagesWith 53 = .ok (.iload 6, 2) := by decide +kernel
theorem dX7_stagesWith_55 : decode cX7_stagesWith 55 = .ok (.iconst 4, 1) := by decide +kernel
theorem dX7_stagesWith_56 : decode cX7_stagesWith 56 = .ok (.if_icmp .ge 12, 3) := by decide +kernel
theorem dX7_stagesWith_59 : decode cX7_stagesWith 59 = .ok (.aload_n 0, 1) := by decide +kernel
theorem dX7_stagesWith_60 : decode cX7_stagesWith 60 = .ok (.iload 6, 2) := by decide +kernel
theorem dX7_stagesWith_62 : decode cX7_stagesWith 62 = .ok (.invokevirtual 86, 3) := by decide +kernel
theorem dX7_stagesWith_65 : decode cX7_stagesWith 65 = .ok (.goto 67, 3) := by decide +kernel
theorem dX7_stagesWith_68 : decode cX7_stagesWith 68 = .ok (.iload 6, 2) := by decide +kernel
theorem dX7_stagesWith_70 : decode cX7_stagesWith 70 = .ok (.iconst 4, 1) := by decide +kernel
theorem dX7_stagesWith_71 : decode cX7_stagesWith 71 = .ok (.if_icmp .ne 10, 3) := by decide +kernel
theorem dX7_stagesWith_74 : decode cX7_stagesWith 74 = .ok (.aload_n 0, 1) := by decide +kernel
theorem dX7_stagesWith_75 : decode cX7_stagesWith 75 = .ok (.invokevirtual 89, 3) := by decide +kernel
theorem dX7_stagesWith_78 : decode cX7_stagesWith 78 = .ok (.goto 54, 3) := by decide +kernel
theorem dX7_stagesWith_81 : decode cX7_stagesWith 81 = .ok (.iload 6, 2) := by decide +kernel
theorem dX7_stagesWith_83 : decode cX7_stagesWith 83 = .ok (.iconst 5, 1) := by decide +kernel
theorem dX7_stagesWith_84 : decode cX7_stagesWith 84 = .ok (.if_icmp .ne 7, 3) := by decide +kernel
theorem dX7_stagesWith_87 : decode cX7_stagesWith 87 = .ok (.iconst 0, 1) := by decide +kernel
theorem dX7_stagesWith_88 : decode cX7_stagesWith 88 = .ok (.goto 44, 3) := by decide +kernel
theorem dX7_stagesWith_91 : decode cX7_stagesWith 91 = .ok (.iload 6, 2) := by decide +kernel
theorem dX7_stagesWith_93 : decode cX7_stagesWith 93 = .ok (.bipush 7, 2) := by decide +kernel
theorem dX7_stagesWith_95 : decode cX7_stagesWith 95 = .ok (.if_icmp .ne 11, 3) := by decide +kernel
theorem dX7_stagesWith_98 : decode cX7_stagesWith 98 = .ok (.iload 4, 2) := by decide +kernel
theorem dX7_stagesWith_100 : decode cX7_stagesWith 100 = .ok (.iload 5, 2) := by decide +kernel
theorem dX7_stagesWith_102 : decode cX7_stagesWith 102 = .ok (.iand, 1) := by decide +kernel
theorem dX7_stagesWith_103 : decode cX7_stagesWith 103 = .ok (.goto 29, 3) := by decide +kernel
theorem dX7_stagesWith_106 : decode cX7_stagesWith 106 = .ok (.iload 6, 2) := by decide +kernel
theorem dX7_stagesWith_108 : decode cX7_stagesWith 108 = .ok (.bipush 8, 2) := by decide +kernel
theorem dX7_stagesWith_110 : decode cX7_stagesWith 110 = .ok (.if_icmp .ne 11, 3) := by decide +kernel
theorem dX7_stagesWith_113 : decode cX7_stagesWith 113 = .ok (.iload 4, 2) := by decide +kernel
theorem dX7_stagesWith_115 : decode cX7_stagesWith 115 = .ok (.iload 5, 2) := by decide +kernel
theorem dX7_stagesWith_117 : decode cX7_stagesWith 117 = .ok (.ior, 1) := by decide +kernel
theorem dX7_stagesWith_118 : decode cX7_stagesWith 118 = .ok (.goto 14, 3) := by decide +kernel
theorem dX7_stagesWith_121 : decode cX7_stagesWith 121 = .ok (.aload_n 0, 1) := by decide +kernel
theorem dX7_stagesWith_122 : decode cX7_stagesWith 122 = .ok (.iload 4, 2) := by decide +kernel
theorem dX7_stagesWith_124 : decode cX7_stagesWith 124 = .ok (.iload 5, 2) := by decide +kernel
theorem dX7_stagesWith_126 : decode cX7_stagesWith 126 = .ok (.iconst (-1), 1) := by decide +kernel
theorem dX7_stagesWith_127 : decode cX7_stagesWith 127 = .ok (.ixor, 1) := by decide +kernel
theorem dX7_stagesWith_128 : decode cX7_stagesWith 128 = .ok (.iand, 1) := by decide +kernel
theorem dX7_stagesWith_129 : decode cX7_stagesWith 129 = .ok (.invokevirtual 93, 3) := by decide +kernel
theorem dX7_stagesWith_132 : decode cX7_stagesWith 132 = .ok (.iastore, 1) := by decide +kernel
theorem dX7_stagesWith_133 : decode cX7_stagesWith 133 = .ok (.iinc 3 1, 3) := by decide +kernel
theorem dX7_stagesWith_136 : decode cX7_stagesWith 136 = .ok (.goto (-134), 3) := by decide +kernel
theorem dX7_stagesWith_139 : decode cX7_stagesWith 139 = .ok (.aload_n 0, 1) := by decide +kernel
theorem dX7_stagesWith_140 : decode cX7_stagesWith 140 = .ok (.getfield 36, 3) := by decide +kernel
theorem dX7_stagesWith_143 : decode cX7_stagesWith 143 = .ok (.iload_n 2, 1) := by decide +kernel
theorem dX7_stagesWith_144 : decode cX7_stagesWith 144 = .ok (.invokestatic 76, 3) := by decide +kernel
theorem dX7_stagesWith_147 : decode cX7_stagesWith 147 = .ok (.ireturn, 1) := by decide +kernel
theorem dX7_stagesAlwaysOutside_0 : decode cX7_stagesAlwaysOutside 0 = .ok (.iconst 0, 1) := by decide +kernel
theorem dX7_stagesAlwaysOutside_1 : decode cX7_stagesAlwaysOutside 1 = .ok (.istore_n 2, 1) := by decide +kernel
theorem dX7_stagesAlwaysOutside_2 : decode cX7_stagesAlwaysOutside 2 = .ok (.iconst 0, 1) := by decide +kernel
theorem dX7_stagesAlwaysOutside_3 : decode cX7_stagesAlwaysOutside 3 = .ok (.istore_n 3, 1) := by decide +kernel
theorem dX7_stagesAlwaysOutside_4 : decode cX7_stagesAlwaysOutside 4 = .ok (.iload_n 3, 1) := by decide +kernel
theorem dX7_stagesAlwaysOutside_5 : decode cX7_stagesAlwaysOutside 5 = .ok (.aload_n 0, 1) := by decide +kernel
theorem dX7_stagesAlwaysOutside_6 : decode cX7_stagesAlwaysOutside 6 = .ok (.getfield 9, 3) := by decide +kernel
theorem dX7_stagesAlwaysOutside_9 : decode cX7_stagesAlwaysOutside 9 = .ok (.if_icmp .ge 30, 3) := by decide +kernel
theorem dX7_stagesAlwaysOutside_12 : decode cX7_stagesAlwaysOutside 12 = .ok (.iload_n 2, 1) := by decide +kernel
theorem dX7_stagesAlwaysOutside_13 : decode cX7_stagesAlwaysOutside 13 = .ok (.aload_n 0, 1) := by decide +kernel
theorem dX7_stagesAlwaysOutside_14 : decode cX7_stagesAlwaysOutside 14 = .ok (.getfield 15, 3) := by decide +kernel
theorem dX7_stagesAlwaysOutside_17 : decode cX7_stagesAlwaysOutside 17 = .ok (.iload_n 3, 1) := by decide +kernel
theorem dX7_stagesAlwaysOutside_18 : decode cX7_stagesAlwaysOutside 18 = .ok (.iaload, 1) := by decide +kernel
theorem dX7_stagesAlwaysOutside_19 : decode cX7_stagesAlwaysOutside 19 = .ok (.iload_n 1, 1) := by decide +kernel
theorem dX7_stagesAlwaysOutside_20 : decode cX7_stagesAlwaysOutside 20 = .ok (.iand, 1) := by decide +kernel
theorem dX7_stagesAlwaysOutside_21 : decode cX7_stagesAlwaysOutside 21 = .ok (.ifCond .ne 9, 3) := by decide +kernel
theorem dX7_stagesAlwaysOutside_24 : decode cX7_stagesAlwaysOutside 24 = .ok (.iconst 1, 1) := by decide +kernel
theorem dX7_stagesAlwaysOutside_25 : decode cX7_stagesAlwaysOutside 25 = .ok (.iload_n 3, 1) := by decide +kernel
theorem dX7_stagesAlwaysOutside_26 : decode cX7_stagesAlwaysOutside 26 = .ok (.ishl, 1) := by decide +kernel
theorem dX7_stagesAlwaysOutside_27 : decode cX7_stagesAlwaysOutside 27 = .ok (.goto 4, 3) := by decide +kernel
theorem dX7_stagesAlwaysOutside_30 : decode cX7_stagesAlwaysOutside 30 = .ok (.iconst 0, 1) := by decide +kernel
theorem dX7_stagesAlwaysOutside_31 : decode cX7_stagesAlwaysOutside 31 = .ok (.ior, 1) := by decide +kernel
theorem dX7_stagesAlwaysOutside_32 : decode cX7_stagesAlwaysOutside 32 = .ok (.istore_n 2, 1) := by decide +kernel
theorem dX7_stagesAlwaysOutside_33 : decode cX7_stagesAlwaysOutside 33 = .ok (.iinc 3 1, 3) := by decide +kernel
theorem dX7_stagesAlwaysOutside_36 : decode cX7_stagesAlwaysOutside 36 = .ok (.goto (-32), 3) := by decide +kernel
theorem dX7_stagesAlwaysOutside_39 : decode cX7_stagesAlwaysOutside 39 = .ok (.iload_n 2, 1) := by decide +kernel
theorem dX7_stagesAlwaysOutside_40 : decode cX7_stagesAlwaysOutside 40 = .ok (.ireturn, 1) := by decide +kernel
theorem dX8_init_0 : decode cX8_init 0 = .ok (.aload_n 0, 1) := by decide +kernel
theorem dX8_init_1 : decode cX8_init 1 = .ok (.invokespecial 3, 3) := by decide +kernel
theorem dX8_init_4 : decode cX8_init 4 = .ok (.aload_n 0, 1) := by decide +kernel
theorem dX8_init_5 : decode cX8_init 5 = .ok (.iconst 0, 1) := by decide +kernel
theorem dX8_init_6 : decode cX8_init 6 = .ok (.putfield 9, 3) := by decide +kernel
theorem dX8_init_9 : decode cX8_init 9 = .ok (.aload_n 0, 1) := by decide +kernel
theorem dX8_init_10 : decode cX8_init 10 = .ok (.bipush 30, 2) := by decide +kernel
theorem dX8_init_12 : decode cX8_init 12 = .ok (.newarray .int, 2) := by decide +kernel
theorem dX8_init_14 : decode cX8_init 14 = .ok (.putfield 15, 3) := by decide +kernel
theorem dX8_init_17 : decode cX8_init 17 = .ok (.aload_n 0, 1) := by decide +kernel
theorem dX8_init_18 : decode cX8_init 18 = .ok (.bipush 30, 2) := by decide +kernel
theorem dX8_init_20 : decode cX8_init 20 = .ok (.newarray .int, 2) := by decide +kernel
theorem dX8_init_22 : decode cX8_init 22 = .ok (.putfield 19, 3) := by decide +kernel
theorem dX8_init_25 : decode cX8_init 25 = .ok (.aload_n 0, 1) := by decide +kernel
theorem dX8_init_26 : decode cX8_init 26 = .ok (.iconst 0, 1) := by decide +kernel
theorem dX8_init_27 : decode cX8_init 27 = .ok (.putfield 22, 3) := by decide +kernel
theorem dX8_init_30 : decode cX8_init 30 = .ok (.aload_n 0, 1) := by decide +kernel
theorem dX8_init_31 : decode cX8_init 31 = .ok (.bipush 30, 2) := by decide +kernel
theorem dX8_init_33 : decode cX8_init 33 = .ok (.newarray .int, 2) := by decide +kernel
theorem dX8_init_35 : decode cX8_init 35 = .ok (.putfield 25, 3) := by decide +kernel
theorem dX8_init_38 : decode cX8_init 38 = .ok (.aload_n 0, 1) := by decide +kernel
theorem dX8_init_39 : decode cX8_init 39 = .ok (.iconst 0, 1) := by decide +kernel
theorem dX8_init_40 : decode cX8_init 40 = .ok (.putfield 28, 3) := by decide +kernel
theorem dX8_init_43 : decode cX8_init 43 = .ok (.aload_n 0, 1) := by decide +kernel
theorem dX8_init_44 : decode cX8_init 44 = .ok (.iconst 0, 1) := by decide +kernel
theorem dX8_init_45 : decode cX8_init 45 = .ok (.putfield 31, 3) := by decide +kernel
theorem dX8_init_48 : decode cX8_init 48 = .ok (.return_, 1) := by decide +kernel
set_option maxRecDepth 20000 in
theorem ggX8_append_X8_signOf : GoodIn wsX8_append wsX8_signOf := goodIn_r _ [6] (by decide +kernel) (by decide +kernel)
set_option maxRecDepth 20000 in
theorem gX8_append_X8_signOf : GoodIn wsX8_append (va_wsS RX8 34 yX8_signOf wsX8_signOf) := goodIn_app (goodIn_of _ (by decide +kernel)) ggX8_append_X8_signOf
theorem dX8_append_0 : decode cX8_append 0 = .ok (.aload_n 0, 1) := by decide +kernel
theorem dX8_append_1 : decode cX8_append 1 = .ok (.getfield 9, 3) := by decide +kernel
theorem dX8_append_4 : decode cX8_append 4 = .ok (.bipush 30, 2) := by decide +kernel
theorem dX8_append_6 : decode cX8_append 6 = .ok (.if_icmp .ge 26, 3) := by decide +kernel
theorem dX8_append_9 : decode cX8_append 9 = .ok (.aload_n 0, 1) := by decide +kernel
theorem dX8_append_10 : decode cX8_append 10 = .ok (.getfield 15, 3) := by decide +kernel
theorem dX8_append_13 : decode cX8_append 13 = .ok (.aload_n 0, 1) := by decide +kernel
theorem dX8_append_14 : decode cX8_append 14 = .ok (.getfield 9, 3) := by decide +kernel
theorem dX8_append_17 : decode cX8_append 17 = .ok (.iload_n 1, 1) := by decide +kernel
theorem dX8_append_18 : decode cX8_append 18 = .ok (.invokestatic 34, 3) := by decide +kernel
theorem dX8_append_21 : decode cX8_append 21 = .ok (.iastore, 1) := by decide +kernel
theorem dX8_append_22 : decode cX8_append 22 = .ok (.aload_n 0, 1) := by decide +kernel
theorem dX8_append_23 : decode cX8_append 23 = .ok (.dup, 1) := by decide +kernel
theorem dX8_append_24 : decode cX8_append 24 = .ok (.getfield 9, 3) := by decide +kernel
theorem dX8_append_27 : decode cX8_append 27 = .ok (.iconst 1, 1) := by decide +kernel
theorem dX8_append_28 : decode cX8_append 28 = .ok (.iadd, 1) := by decide +kernel
theorem dX8_append_29 : decode cX8_append 29 = .ok (.putfield 9, 3) := by decide +kernel
theorem dX8_append_32 : decode cX8_append 32 = .ok (.return_, 1) := by decide +kernel
theorem dX8_signOf_0 : decode cX8_signOf 0 = .ok (.iload_n 0, 1) := by decide +kernel
theorem dX8_signOf_1 : decode cX8_signOf 1 = .ok (.lookupswitch 134 #[(38, 119), (40, 128), (41, 131), (62, 125), (70, 114), (84, 112), (97, 107), (98, 107), (99, 107), (100, 107), (124, 122), (126, 116)], 107) := by decide +kernel
theorem dX8_signOf_108 : decode cX8_signOf 108 = .ok (.iload_n 0, 1) := by decide +kernel
theorem dX8_signOf_109 : decode cX8_signOf 109 = .ok (.bipush 97, 2) := by decide +kernel
theorem dX8_signOf_111 : decode cX8_signOf 111 = .ok (.isub, 1) := by decide +kernel
theorem dX8_signOf_112 : decode cX8_signOf 112 = .ok (.ireturn, 1) := by decide +kernel
theorem dX8_signOf_113 : decode cX8_signOf 113 = .ok (.iconst 4, 1) := by decide +kernel
theorem dX8_signOf_114 : decode cX8_signOf 114 = .ok (.ireturn, 1) := by decide +kernel
theorem dX8_signOf_115 : decode cX8_signOf 115 = .ok (.iconst 5, 1) := by decide +kernel
theorem dX8_signOf_116 : decode cX8_signOf 116 = .ok (.ireturn, 1) := by decide +kernel
theorem dX8_signOf_117 : decode cX8_signOf 117 = .ok (.bipush 6, 2) := by decide +kernel
theorem dX8_signOf_119 : decode cX8_signOf 119 = .ok (.ireturn, 1) := by decide +kernel
theorem dX8_signOf_120 : decode cX8_signOf 120 = .ok (.bipush 7, 2) := by decide +kernel
theorem dX8_signOf_122 : decode cX8_signOf 122 = .ok (.ireturn, 1) := by decide +kernel
theorem dX8_signOf_123 : decode cX8_signOf 123 = .ok (.bipush 8, 2) := by decide +kernel
theorem dX8_signOf_125 : decode cX8_signOf 125 = .ok (.ireturn, 1) := by decide +kernel
theorem dX8_signOf_126 : decode cX8_signOf 126 = .ok (.bipush 9, 2) := by decide +kernel
theorem dX8_signOf_128 : decode cX8_signOf 128 = .ok (.ireturn, 1) := by decide +kernel
theorem dX8_signOf_129 : decode cX8_signOf 129 = .ok (.bipush 10, 2) := by decide +kernel
theorem dX8_signOf_131 : decode cX8_signOf 131 = .ok (.ireturn, 1) := by decide +kernel
theorem dX8_signOf_132 : decode cX8_signOf 132 = .ok (.bipush 11, 2) := by decide +kernel
theorem dX8_signOf_134 : decode cX8_signOf 134 = .ok (.ireturn, 1) := by decide +kernel
theorem dX8_signOf_135 : decode cX8_signOf 135 = .ok (.bipush 12, 2) := by decide +kernel
theorem dX8_signOf_137 : decode cX8_signOf 137 = .ok (.ireturn, 1) := by decide +kernel
set_option maxRecDepth 20000 in
theorem ggX8_readFault_X8_beginsPart : GoodIn wsX8_readFault wsX8_beginsPart := goodIn_r _ [10, 3, 11, 12, 13, 9, 14, 1, 15, 16, 17, 18, 19, 2, 20, 36, 37, 38, 39, 40, 41, 42] (by decide +kernel) (by decide +kernel)
set_option maxRecDepth 20000 in
theorem gX8_readFault_X8_beginsPart : GoodIn wsX8_readFault (wsV RX8 38 RX8 yX8_beginsPart wsX8_beginsPart) := goodIn_app (goodIn_of _ (by decide +kernel)) ggX8_readFault_X8_beginsPart
set_option maxRecDepth 20000 in
theorem ggX8_readFault_X8_goesOn : GoodIn wsX8_readFault wsX8_goesOn := goodIn_r _ [24, 3, 2, 25, 26, 27, 28, 29, 30, 31, 9, 32, 20, 33, 34, 35, 11, 12, 13, 14, 1, 15, 16, 17, 18, 19, 36, 37, 38, 39, 40, 41, 42] (by decide +kernel) (by decide +kernel)
set_option maxRecDepth 20000 in
theorem gX8_readFault_X8_goesOn : GoodIn wsX8_readFault (wsV RX8 42 RX8 yX8_goesOn wsX8_goesOn) := goodIn_app (goodIn_of _ (by decide +kernel)) ggX8_readFault_X8_goesOn
set_option maxRecDepth 20000 in
theorem ggX8_readFault_X8_settle : GoodIn wsX8_readFault wsX8_settle := goodIn_r _ [32, 2, 20, 33, 34, 9, 35, 11, 12, 13, 14, 1, 15, 36, 37, 38, 39, 40, 41, 42] (by decide +kernel) (by decide +kernel)
set_option maxRecDepth 20000 in
theorem gX8_readFault_X8_settle : GoodIn wsX8_readFault (wsV RX8 45 RX8 yX8_settle wsX8_settle) := goodIn_app (goodIn_of _ (by decide +kernel)) ggX8_readFault_X8_settle
theorem dX8_readFault_0 : decode cX8_readFault 0 = .ok (.aload_n 0, 1) := by decide +kernel
theorem dX8_readFault_1 : decode cX8_readFault 1 = .ok (.iconst 0, 1) := by decide +kernel
theorem dX8_readFault_2 : decode cX8_readFault 2 = .ok (.putfield 22, 3) := by decide +kernel
theorem dX8_readFault_5 : decode cX8_readFault 5 = .ok (.aload_n 0, 1) := by decide +kernel
theorem dX8_readFault_6 : decode cX8_readFault 6 = .ok (.iconst 0, 1) := by decide +kernel
theorem dX8_readFault_7 : decode cX8_readFault 7 = .ok (.putfield 28, 3) := by decide +kernel
theorem dX8_readFault_10 : decode cX8_readFault 10 = .ok (.aload_n 0, 1) := by decide +kernel
theorem dX8_readFault_11 : decode cX8_readFault 11 = .ok (.iconst 0, 1) := by decide +kernel
theorem dX8_readFault_12 : decode cX8_readFault 12 = .ok (.putfield 31, 3) := by decide +kernel
theorem dX8_readFault_15 : decode cX8_readFault 15 = .ok (.iconst 1, 1) := by decide +kernel
theorem dX8_readFault_16 : decode cX8_readFault 16 = .ok (.istore_n 1, 1) := by decide +kernel
theorem dX8_readFault_17 : decode cX8_readFault 17 = .ok (.iconst 0, 1) := by decide +kernel
theorem dX8_readFault_18 : decode cX8_readFault 18 = .ok (.istore_n 2, 1) := by decide +kernel
theorem dX8_readFault_19 : decode cX8_readFault 19 = .ok (.iload_n 2, 1) := by decide +kernel
theorem dX8_readFault_20 : decode cX8_readFault 20 = .ok (.aload_n 0, 1) := by decide +kernel
theorem dX8_readFault_21 : decode cX8_readFault 21 = .ok (.getfield 9, 3) := by decide +kernel
theorem dX8_readFault_24 : decode cX8_readFault 24 = .ok (.if_icmp .ge 58, 3) := by decide +kernel
theorem dX8_readFault_27 : decode cX8_readFault 27 = .ok (.aload_n 0, 1) := by decide +kernel
theorem dX8_readFault_28 : decode cX8_readFault 28 = .ok (.getfield 15, 3) := by decide +kernel
theorem dX8_readFault_31 : decode cX8_readFault 31 = .ok (.iload_n 2, 1) := by decide +kernel
theorem dX8_readFault_32 : decode cX8_readFault 32 = .ok (.iaload, 1) := by decide +kernel
theorem dX8_readFault_33 : decode cX8_readFault 33 = .ok (.istore_n 3, 1) := by decide +kernel
theorem dX8_readFault_34 : decode cX8_readFault 34 = .ok (.iload_n 1, 1) := by decide +kernel
theorem dX8_readFault_35 : decode cX8_readFault 35 = .ok (.ifCond .eq 14, 3) := by decide +kernel
theorem dX8_readFault_38 : decode cX8_readFault 38 = .ok (.aload_n 0, 1) := by decide +kernel
theorem dX8_readFault_39 : decode cX8_readFault 39 = .ok (.iload_n 3, 1) := by decide +kernel
theorem dX8_readFault_40 : decode cX8_readFault 40 = .ok (.invokevirtual 38, 3) := by decide +kernel
theorem dX8_readFault_43 : decode cX8_readFault 43 = .ok (.ifCond .ne 16, 3) := by decide +kernel
theorem dX8_readFault_46 : decode cX8_readFault 46 = .ok (.goto 11, 3) := by decide +kernel
theorem dX8_readFault_49 : decode cX8_readFault 49 = .ok (.aload_n 0, 1) := by decide +kernel
theorem dX8_readFault_50 : decode cX8_readFault 50 = .ok (.iload_n 3, 1) := by decide +kernel
theorem dX8_readFault_51 : decode cX8_readFault 51 = .ok (.invokevirtual 42, 3) := by decide +kernel
theorem dX8_readFault_54 : decode cX8_readFault 54 = .ok (.ifCond .ne 5, 3) := by decide +kernel
theorem dX8_readFault_57 : decode cX8_readFault 57 = .ok (.iload_n 2, 1) := by decide +kernel
theorem dX8_readFault_58 : decode cX8_readFault 58 = .ok (.ireturn, 1) := by decide +kernel
theorem dX8_readFault_59 : decode cX8_readFault 59 = .ok (.iload_n 3, 1) := by decide +kernel
theorem dX8_readFault_60 : decode cX8_readFault 60 = .ok (.iconst 5, 1) := by decide +kernel
theorem dX8_readFault_61 : decode cX8_readFault 61 = .ok (.if_icmp .le 13, 3) := by decide +kernel
theorem dX8_readFault_64 : decode cX8_readFault 64 = .ok (.iload_n 3, 1) := by decide +kernel
theorem dX8_readFault_65 : decode cX8_readFault 65 = .ok (.bipush 11, 2) := by decide +kernel
theorem dX8_readFault_67 : decode cX8_readFault 67 = .ok (.if_icmp .eq 7, 3) := by decide +kernel
theorem dX8_readFault_70 : decode cX8_readFault 70 = .ok (.iconst 1, 1) := by decide +kernel
theorem dX8_readFault_71 : decode cX8_readFault 71 = .ok (.goto 4, 3) := by decide +kernel
theorem dX8_readFault_74 : decode cX8_readFault 74 = .ok (.iconst 0, 1) := by decide +kernel
theorem dX8_readFault_75 : decode cX8_readFault 75 = .ok (.istore_n 1, 1) := by decide +kernel
theorem dX8_readFault_76 : decode cX8_readFault 76 = .ok (.iinc 2 1, 3) := by decide +kernel
theorem dX8_readFault_79 : decode cX8_readFault 79 = .ok (.goto (-60), 3) := by decide +kernel
theorem dX8_readFault_82 : decode cX8_readFault 82 = .ok (.iload_n 1, 1) := by decide +kernel
theorem dX8_readFault_83 : decode cX8_readFault 83 = .ok (.ifCond .ne 10, 3) := by decide +kernel
theorem dX8_readFault_86 : decode cX8_readFault 86 = .ok (.aload_n 0, 1) := by decide +kernel
theorem dX8_readFault_87 : decode cX8_readFault 87 = .ok (.getfield 31, 3) := by decide +kernel
theorem dX8_readFault_90 : decode cX8_readFault 90 = .ok (.ifCond .le 8, 3) := by decide +kernel
theorem dX8_readFault_93 : decode cX8_readFault 93 = .ok (.aload_n 0, 1) := by decide +kernel
theorem dX8_readFault_94 : decode cX8_readFault 94 = .ok (.getfield 9, 3) := by decide +kernel
theorem dX8_readFault_97 : decode cX8_readFault 97 = .ok (.ireturn, 1) := by decide +kernel
theorem dX8_readFault_98 : decode cX8_readFault 98 = .ok (.aload_n 0, 1) := by decide +kernel
theorem dX8_readFault_99 : decode cX8_readFault 99 = .ok (.iconst 1, 1) := by decide +kernel
theorem dX8_readFault_100 : decode cX8_readFault 100 = .ok (.invokevirtual 45, 3) := by decide +kernel
theorem dX8_readFault_103 : decode cX8_readFault 103 = .ok (.iconst (-1), 1) := by decide +kernel
theorem dX8_readFault_104 : decode cX8_readFault 104 = .ok (.ireturn, 1) := by decide +kernel
set_option maxRecDepth 20000 in
theorem ggX8_made_X0_init : GoodIn wsX8_made wsX0_init := goodIn_r _ [8, 9, 10, 11, 12, 13, 14, 15, 16, 17, 18, 19, 20, 21, 22, 23] (by decide +kernel) (by decide +kernel)
set_option maxRecDepth 20000 in
theorem gX8_made_X0_init : GoodIn wsX8_made (wsX0_init) := ggX8_made_X0_init
theorem dX8_made_0 : decode cX8_made 0 = .ok (.new 49, 3) := by decide +kernel
theorem dX8_made_3 : decode cX8_made 3 = .ok (.dup, 1) := by decide +kernel
theorem dX8_made_4 : decode cX8_made 4 = .ok (.aload_n 0, 1) := by decide +kernel
theorem dX8_made_5 : decode cX8_made 5 = .ok (.getfield 19, 3) := by decide +kernel
theorem dX8_made_8 : decode cX8_made 8 = .ok (.aload_n 0, 1) := by decide +kernel
theorem dX8_made_9 : decode cX8_made 9 = .ok (.getfield 22, 3) := by decide +kernel
theorem dX8_made_12 : decode cX8_made 12 = .ok (.invokespecial 51, 3) := by decide +kernel
theorem dX8_made_15 : decode cX8_made 15 = .ok (.areturn, 1) := by decide +kernel
set_option maxRecDepth 20000 in
theorem ggX8_beginsPart_X8_finish : GoodIn wsX8_beginsPart wsX8_finish := goodIn_r _ [6, 7, 8, 15, 16, 17, 18, 19, 20, 21] (by decide +kernel) (by decide +kernel)
set_option maxRecDepth 20000 in
theorem gX8_beginsPart_X8_finish : GoodIn wsX8_beginsPart (wsV RX8 54 RX8 yX8_finish wsX8_finish) := goodIn_app (goodIn_of _ (by decide +kernel)) ggX8_beginsPart_X8_finish
set_option maxRecDepth 20000 in
theorem ggX8_beginsPart_X8_await : GoodIn wsX8_beginsPart wsX8_await := goodIn_r _ [12, 13, 14, 15, 16, 17, 18, 19, 20, 21] (by decide +kernel) (by decide +kernel)
set_option maxRecDepth 20000 in
theorem gX8_beginsPart_X8_await : GoodIn wsX8_beginsPart (wsV RX8 57 RX8 yX8_await wsX8_await) := goodIn_app (goodIn_of _ (by decide +kernel)) ggX8_beginsPart_X8_await
theorem dX8_beginsPart_0 : decode cX8_beginsPart 0 = .ok (.iload_n 1, 1) := by decide +kernel
theorem dX8_beginsPart_1 : decode cX8_beginsPart 1 = .ok (.iconst 5, 1) := by decide +kernel
theorem dX8_beginsPart_2 : decode cX8_beginsPart 2 = .ok (.if_icmp .gt 10, 3) := by decide +kernel
theorem dX8_beginsPart_5 : decode cX8_beginsPart 5 = .ok (.aload_n 0, 1) := by decide +kernel
theorem dX8_beginsPart_6 : decode cX8_beginsPart 6 = .ok (.iload_n 1, 1) := by decide +kernel
theorem dX8_beginsPart_7 : decode cX8_beginsPart 7 = .ok (.invokevirtual 54, 3) := by decide +kernel
theorem dX8_beginsPart_10 : decode cX8_beginsPart 10 = .ok (.iconst 1, 1) := by decide +kernel
theorem dX8_beginsPart_11 : decode cX8_beginsPart 11 = .ok (.ireturn, 1) := by decide +kernel
theorem dX8_beginsPart_12 : decode cX8_beginsPart 12 = .ok (.iload_n 1, 1) := by decide +kernel
theorem dX8_beginsPart_13 : decode cX8_beginsPart 13 = .ok (.bipush 10, 2) := by decide +kernel
theorem dX8_beginsPart_15 : decode cX8_beginsPart 15 = .ok (.if_icmp .ne 29, 3) := by decide +kernel
theorem dX8_beginsPart_18 : decode cX8_beginsPart 18 = .ok (.aload_n 0, 1) := by decide +kernel
theorem dX8_beginsPart_19 : decode cX8_beginsPart 19 = .ok (.getfield 31, 3) := by decide +kernel
theorem dX8_beginsPart_22 : decode cX8_beginsPart 22 = .ok (.bipush 6, 2) := by decide +kernel
theorem dX8_beginsPart_24 : decode cX8_beginsPart 24 = .ok (.if_icmp .ge 20, 3) := by decide +kernel
theorem dX8_beginsPart_27 : decode cX8_beginsPart 27 = .ok (.aload_n 0, 1) := by decide +kernel
theorem dX8_beginsPart_28 : decode cX8_beginsPart 28 = .ok (.dup, 1) := by decide +kernel
theorem dX8_beginsPart_29 : decode cX8_beginsPart 29 = .ok (.getfield 31, 3) := by decide +kernel
theorem dX8_beginsPart_32 : decode cX8_beginsPart 32 = .ok (.iconst 1, 1) := by decide +kernel
theorem dX8_beginsPart_33 : decode cX8_beginsPart 33 = .ok (.iadd, 1) := by decide +kernel
theorem dX8_beginsPart_34 : decode cX8_beginsPart 34 = .ok (.putfield 31, 3) := by decide +kernel
theorem dX8_beginsPart_37 : decode cX8_beginsPart 37 = .ok (.aload_n 0, 1) := by decide +kernel
theorem dX8_beginsPart_38 : decode cX8_beginsPart 38 = .ok (.iload_n 1, 1) := by decide +kernel
theorem dX8_beginsPart_39 : decode cX8_beginsPart 39 = .ok (.invokevirtual 57, 3) := by decide +kernel
theorem dX8_beginsPart_42 : decode cX8_beginsPart 42 = .ok (.iconst 1, 1) := by decide +kernel
theorem dX8_beginsPart_43 : decode cX8_beginsPart 43 = .ok (.ireturn, 1) := by decide +kernel
theorem dX8_beginsPart_44 : decode cX8_beginsPart 44 = .ok (.iload_n 1, 1) := by decide +kernel
theorem dX8_beginsPart_45 : decode cX8_beginsPart 45 = .ok (.bipush 6, 2) := by decide +kernel
theorem dX8_beginsPart_47 : decode cX8_beginsPart 47 = .ok (.if_icmp .ne 10, 3) := by decide +kernel
theorem dX8_beginsPart_50 : decode cX8_beginsPart 50 = .ok (.aload_n 0, 1) := by decide +kernel
theorem dX8_beginsPart_51 : decode cX8_beginsPart 51 = .ok (.iload_n 1, 1) := by decide +kernel
theorem dX8_beginsPart_52 : decode cX8_beginsPart 52 = .ok (.invokevirtual 57, 3) := by decide +kernel
theorem dX8_beginsPart_55 : decode cX8_beginsPart 55 = .ok (.iconst 1, 1) := by decide +kernel
theorem dX8_beginsPart_56 : decode cX8_beginsPart 56 = .ok (.ireturn, 1) := by decide +kernel
theorem dX8_beginsPart_57 : decode cX8_beginsPart 57 = .ok (.iconst 0, 1) := by decide +kernel
theorem dX8_beginsPart_58 : decode cX8_beginsPart 58 = .ok (.ireturn, 1) := by decide +kernel
set_option maxRecDepth 20000 in
theorem ggX8_goesOn_X8_settle : GoodIn wsX8_goesOn wsX8_settle := goodIn_r _ [11, 2, 12, 13, 14, 10, 15, 16, 17, 18, 19, 20, 21, 26, 27, 28, 29, 30, 31, 32] (by decide +kernel) (by decide +kernel)
set_option maxRecDepth 20000 in
theorem gX8_goesOn_X8_settle : GoodIn wsX8_goesOn (wsV RX8 45 RX8 yX8_settle wsX8_settle) := goodIn_app (goodIn_of _ (by decide +kernel)) ggX8_goesOn_X8_settle
set_option maxRecDepth 20000 in
theorem ggX8_goesOn_X8_tightness : GoodIn wsX8_goesOn wsX8_tightness := goodIn_r _ [15] (by decide +kernel) (by decide +kernel)
set_option maxRecDepth 20000 in
theorem gX8_goesOn_X8_tightness : GoodIn wsX8_goesOn (va_wsS RX8 66 yX8_tightness wsX8_tightness) := goodIn_app (goodIn_of _ (by decide +kernel)) ggX8_goesOn_X8_tightness
set_option maxRecDepth 20000 in
theorem ggX8_goesOn_X8_await : GoodIn wsX8_goesOn wsX8_await := goodIn_r _ [25, 2, 12, 26, 27, 28, 29, 30, 31, 32] (by decide +kernel) (by decide +kernel)
set_option maxRecDepth 20000 in
theorem gX8_goesOn_X8_await : GoodIn wsX8_goesOn (wsV RX8 57 RX8 yX8_await wsX8_await) := goodIn_app (goodIn_of _ (by decide +kernel)) ggX8_goesOn_X8_await
theorem dX8_goesOn_0 : decode cX8_goesOn 0 = .ok (.iload_n 1, 1) := by decide +kernel
theorem dX8_goesOn_1 : decode cX8_goesOn 1 = .ok (.bipush 11, 2) := by decide +kernel
theorem dX8_goesOn_3 : decode cX8_goesOn 3 = .ok (.if_icmp .ne 41, 3) := by decide +kernel
theorem dX8_goesOn_6 : decode cX8_goesOn 6 = .ok (.aload_n 0, 1) := by decide +kernel
theorem dX8_goesOn_7 : decode cX8_goesOn 7 = .ok (.getfield 31, 3) := by decide +kernel
theorem dX8_goesOn_10 : decode cX8_goesOn 10 = .ok (.ifCond .le 34, 3) := by decide +kernel
theorem dX8_goesOn_13 : decode cX8_goesOn 13 = .ok (.aload_n 0, 1) := by decide +kernel
theorem dX8_goesOn_14 : decode cX8_goesOn 14 = .ok (.iconst 1, 1) := by decide +kernel
theorem dX8_goesOn_15 : decode cX8_goesOn 15 = .ok (.invokevirtual 45, 3) := by decide +kernel
theorem dX8_goesOn_18 : decode cX8_goesOn 18 = .ok (.aload_n 0, 1) := by decide +kernel
theorem dX8_goesOn_19 : decode cX8_goesOn 19 = .ok (.dup, 1) := by decide +kernel
theorem dX8_goesOn_20 : decode cX8_goesOn 20 = .ok (.getfield 31, 3) := by decide +kernel
theorem dX8_goesOn_23 : decode cX8_goesOn 23 = .ok (.iconst 1, 1) := by decide +kernel
theorem dX8_goesOn_24 : decode cX8_goesOn 24 = .ok (.isub, 1) := by decide +kernel
theorem dX8_goesOn_25 : decode cX8_goesOn 25 = .ok (.putfield 31, 3) := by decide +kernel
theorem dX8_goesOn_28 : decode cX8_goesOn 28 = .ok (.aload_n 0, 1) := by decide +kernel
theorem dX8_goesOn_29 : decode cX8_goesOn 29 = .ok (.iconst 0, 1) := by decide +kernel
theorem dX8_goesOn_30 : decode cX8_goesOn 30 = .ok (.aload_n 0, 1) := by decide +kernel
theorem dX8_goesOn_31 : decode cX8_goesOn 31 = .ok (.getfield 28, 3) := by decide +kernel
theorem dX8_goesOn_34 : decode cX8_goesOn 34 = .ok (.iconst 1, 1) := by decide +kernel
theorem dX8_goesOn_35 : decode cX8_goesOn 35 = .ok (.isub, 1) := by decide +kernel
theorem dX8_goesOn_36 : decode cX8_goesOn 36 = .ok (.invokestatic 60, 3) := by decide +kernel
theorem dX8_goesOn_39 : decode cX8_goesOn 39 = .ok (.putfield 28, 3) := by decide +kernel
theorem dX8_goesOn_42 : decode cX8_goesOn 42 = .ok (.iconst 1, 1) := by decide +kernel
theorem dX8_goesOn_43 : decode cX8_goesOn 43 = .ok (.ireturn, 1) := by decide +kernel
theorem dX8_goesOn_44 : decode cX8_goesOn 44 = .ok (.iload_n 1, 1) := by decide +kernel
theorem dX8_goesOn_45 : decode cX8_goesOn 45 = .ok (.bipush 7, 2) := by decide +kernel
theorem dX8_goesOn_47 : decode cX8_goesOn 47 = .ok (.if_icmp .eq 15, 3) := by decide +kernel
theorem dX8_goesOn_50 : decode cX8_goesOn 50 = .ok (.iload_n 1, 1) := by decide +kernel
theorem dX8_goesOn_51 : decode cX8_goesOn 51 = .ok (.bipush 8, 2) := by decide +kernel
theorem dX8_goesOn_53 : decode cX8_goesOn 53 = .ok (.if_icmp .eq 9, 3) := by decide +kernel
theorem dX8_goesOn_56 : decode cX8_goesOn 56 = .ok (.iload_n 1, 1) := by decide +kernel
theorem dX8_goesOn_57 : decode cX8_goesOn 57 = .ok (.bipush 9, 2) := by decide +kernel
theorem dX8_goesOn_59 : decode cX8_goesOn 59 = .ok (.if_icmp .ne 32, 3) := by decide +kernel
theorem dX8_goesOn_62 : decode cX8_goesOn 62 = .ok (.aload_n 0, 1) := by decide +kernel
theorem dX8_goesOn_63 : decode cX8_goesOn 63 = .ok (.iload_n 1, 1) := by decide +kernel
theorem dX8_goesOn_64 : decode cX8_goesOn 64 = .ok (.bipush 9, 2) := by decide +kernel
theorem dX8_goesOn_66 : decode cX8_goesOn 66 = .ok (.if_icmp .ne 11, 3) := by decide +kernel
theorem dX8_goesOn_69 : decode cX8_goesOn 69 = .ok (.bipush 8, 2) := by decide +kernel
theorem dX8_goesOn_71 : decode cX8_goesOn 71 = .ok (.invokestatic 66, 3) := by decide +kernel
theorem dX8_goesOn_74 : decode cX8_goesOn 74 = .ok (.goto 7, 3) := by decide +kernel
theorem dX8_goesOn_77 : decode cX8_goesOn 77 = .ok (.iload_n 1, 1) := by decide +kernel
theorem dX8_goesOn_78 : decode cX8_goesOn 78 = .ok (.invokestatic 66, 3) := by decide +kernel
theorem dX8_goesOn_81 : decode cX8_goesOn 81 = .ok (.invokevirtual 45, 3) := by decide +kernel
theorem dX8_goesOn_84 : decode cX8_goesOn 84 = .ok (.aload_n 0, 1) := by decide +kernel
theorem dX8_goesOn_85 : decode cX8_goesOn 85 = .ok (.iload_n 1, 1) := by decide +kernel
theorem dX8_goesOn_86 : decode cX8_goesOn 86 = .ok (.invokevirtual 57, 3) := by decide +kernel
theorem dX8_goesOn_89 : decode cX8_goesOn 89 = .ok (.iconst 1, 1) := by decide +kernel
theorem dX8_goesOn_90 : decode cX8_goesOn 90 = .ok (.ireturn, 1) := by decide +kernel
theorem dX8_goesOn_91 : decode cX8_goesOn 91 = .ok (.iconst 0, 1) := by decide +kernel
theorem dX8_goesOn_92 : decode cX8_goesOn 92 = .ok (.ireturn, 1) := by decide +kernel
set_option maxRecDepth 20000 in
theorem ggX8_settle_X8_tightness : GoodIn wsX8_settle wsX8_tightness := goodIn_r _ [6] (by decide +kernel) (by decide +kernel)
set_option maxRecDepth 20000 in
theorem gX8_settle_X8_tightness : GoodIn wsX8_settle (va_wsS RX8 66 yX8_tightness wsX8_tightness) := goodIn_app (goodIn_of _ (by decide +kernel)) ggX8_settle_X8_tightness
set_option maxRecDepth 20000 in
theorem ggX8_settle_X8_finish : GoodIn wsX8_settle wsX8_finish := goodIn_r _ [10, 11, 12, 13, 14, 15, 16, 17, 18, 19] (by decide +kernel) (by decide +kernel)
set_option maxRecDepth 20000 in
theorem gX8_settle_X8_finish : GoodIn wsX8_settle (wsV RX8 54 RX8 yX8_finish wsX8_finish) := goodIn_app (goodIn_of _ (by decide +kernel)) ggX8_settle_X8_finish
theorem dX8_settle_0 : decode cX8_settle 0 = .ok (.aload_n 0, 1) := by decide +kernel
theorem dX8_settle_1 : decode cX8_settle 1 = .ok (.getfield 28, 3) := by decide +kernel
theorem dX8_settle_4 : decode cX8_settle 4 = .ok (.iconst 1, 1) := by decide +kernel
theorem dX8_settle_5 : decode cX8_settle 5 = .ok (.isub, 1) := by decide +kernel
theorem dX8_settle_6 : decode cX8_settle 6 = .ok (.istore_n 2, 1) := by decide +kernel
theorem dX8_settle_7 : decode cX8_settle 7 = .ok (.iload_n 2, 1) := by decide +kernel
theorem dX8_settle_8 : decode cX8_settle 8 = .ok (.ifCond .lt 37, 3) := by decide +kernel
theorem dX8_settle_11 : decode cX8_settle 11 = .ok (.aload_n 0, 1) := by decide +kernel
theorem dX8_settle_12 : decode cX8_settle 12 = .ok (.getfield 25, 3) := by decide +kernel
theorem dX8_settle_15 : decode cX8_settle 15 = .ok (.iload_n 2, 1) := by decide +kernel
theorem dX8_settle_16 : decode cX8_settle 16 = .ok (.iaload, 1) := by decide +kernel
theorem dX8_settle_17 : decode cX8_settle 17 = .ok (.invokestatic 66, 3) := by decide +kernel
theorem dX8_settle_20 : decode cX8_settle 20 = .ok (.iload_n 1, 1) := by decide +kernel
theorem dX8_settle_21 : decode cX8_settle 21 = .ok (.if_icmp .lt 24, 3) := by decide +kernel
theorem dX8_settle_24 : decode cX8_settle 24 = .ok (.aload_n 0, 1) := by decide +kernel
theorem dX8_settle_25 : decode cX8_settle 25 = .ok (.aload_n 0, 1) := by decide +kernel
theorem dX8_settle_26 : decode cX8_settle 26 = .ok (.getfield 25, 3) := by decide +kernel
theorem dX8_settle_29 : decode cX8_settle 29 = .ok (.iload_n 2, 1) := by decide +kernel
theorem dX8_settle_30 : decode cX8_settle 30 = .ok (.iaload, 1) := by decide +kernel
theorem dX8_settle_31 : decode cX8_settle 31 = .ok (.invokevirtual 54, 3) := by decide +kernel
theorem dX8_settle_34 : decode cX8_settle 34 = .ok (.aload_n 0, 1) := by decide +kernel
theorem dX8_settle_35 : decode cX8_settle 35 = .ok (.iload_n 2, 1) := by decide +kernel
theorem dX8_settle_36 : decode cX8_settle 36 = .ok (.putfield 28, 3) := by decide +kernel
theorem dX8_settle_39 : decode cX8_settle 39 = .ok (.iinc 2 (-1), 3) := by decide +kernel
theorem dX8_settle_42 : decode cX8_settle 42 = .ok (.goto (-35), 3) := by decide +kernel
theorem dX8_settle_45 : decode cX8_settle 45 = .ok (.return_, 1) := by decide +kernel
theorem dX8_tightness_0 : decode cX8_tightness 0 = .ok (.iload_n 0, 1) := by decide +kernel
theorem dX8_tightness_1 : decode cX8_tightness 1 = .ok (.bipush 6, 2) := by decide +kernel
theorem dX8_tightness_3 : decode cX8_tightness 3 = .ok (.if_icmp .ne 7, 3) := by decide +kernel
theorem dX8_tightness_6 : decode cX8_tightness 6 = .ok (.iconst 4, 1) := by decide +kernel
theorem dX8_tightness_7 : decode cX8_tightness 7 = .ok (.goto 34, 3) := by decide +kernel
theorem dX8_tightness_10 : decode cX8_tightness 10 = .ok (.iload_n 0, 1) := by decide +kernel
theorem dX8_tightness_11 : decode cX8_tightness 11 = .ok (.bipush 7, 2) := by decide +kernel
theorem dX8_tightness_13 : decode cX8_tightness 13 = .ok (.if_icmp .ne 7, 3) := by decide +kernel
theorem dX8_tightness_16 : decode cX8_tightness 16 = .ok (.iconst 3, 1) := by decide +kernel
theorem dX8_tightness_17 : decode cX8_tightness 17 = .ok (.goto 24, 3) := by decide +kernel
theorem dX8_tightness_20 : decode cX8_tightness 20 = .ok (.iload_n 0, 1) := by decide +kernel
theorem dX8_tightness_21 : decode cX8_tightness 21 = .ok (.bipush 8, 2) := by decide +kernel
theorem dX8_tightness_23 : decode cX8_tightness 23 = .ok (.if_icmp .ne 7, 3) := by decide +kernel
theorem dX8_tightness_26 : decode cX8_tightness 26 = .ok (.iconst 2, 1) := by decide +kernel
theorem dX8_tightness_27 : decode cX8_tightness 27 = .ok (.goto 14, 3) := by decide +kernel
theorem dX8_tightness_30 : decode cX8_tightness 30 = .ok (.iload_n 0, 1) := by decide +kernel
theorem dX8_tightness_31 : decode cX8_tightness 31 = .ok (.bipush 9, 2) := by decide +kernel
theorem dX8_tightness_33 : decode cX8_tightness 33 = .ok (.if_icmp .ne 7, 3) := by decide +kernel
theorem dX8_tightness_36 : decode cX8_tightness 36 = .ok (.iconst 1, 1) := by decide +kernel
theorem dX8_tightness_37 : decode cX8_tightness 37 = .ok (.goto 4, 3) := by decide +kernel
theorem dX8_tightness_40 : decode cX8_tightness 40 = .ok (.iconst 0, 1) := by decide +kernel
theorem dX8_tightness_41 : decode cX8_tightness 41 = .ok (.ireturn, 1) := by decide +kernel
theorem dX8_await_0 : decode cX8_await 0 = .ok (.aload_n 0, 1) := by decide +kernel
theorem dX8_await_1 : decode cX8_await 1 = .ok (.getfield 28, 3) := by decide +kernel
theorem dX8_await_4 : decode cX8_await 4 = .ok (.bipush 30, 2) := by decide +kernel
theorem dX8_await_6 : decode cX8_await 6 = .ok (.if_icmp .ge 23, 3) := by decide +kernel
theorem dX8_await_9 : decode cX8_await 9 = .ok (.aload_n 0, 1) := by decide +kernel
theorem dX8_await_10 : decode cX8_await 10 = .ok (.getfield 25, 3) := by decide +kernel
theorem dX8_await_13 : decode cX8_await 13 = .ok (.aload_n 0, 1) := by decide +kernel
theorem dX8_await_14 : decode cX8_await 14 = .ok (.getfield 28, 3) := by decide +kernel
theorem dX8_await_17 : decode cX8_await 17 = .ok (.iload_n 1, 1) := by decide +kernel
theorem dX8_await_18 : decode cX8_await 18 = .ok (.iastore, 1) := by decide +kernel
theorem dX8_await_19 : decode cX8_await 19 = .ok (.aload_n 0, 1) := by decide +kernel
theorem dX8_await_20 : decode cX8_await 20 = .ok (.dup, 1) := by decide +kernel
theorem dX8_await_21 : decode cX8_await 21 = .ok (.getfield 28, 3) := by decide +kernel
theorem dX8_await_24 : decode cX8_await 24 = .ok (.iconst 1, 1) := by decide +kernel
theorem dX8_await_25 : decode cX8_await 25 = .ok (.iadd, 1) := by decide +kernel
theorem dX8_await_26 : decode cX8_await 26 = .ok (.putfield 28, 3) := by decide +kernel
theorem dX8_await_29 : decode cX8_await 29 = .ok (.return_, 1) := by decide +kernel
theorem dX8_finish_0 : decode cX8_finish 0 = .ok (.aload_n 0, 1) := by decide +kernel
theorem dX8_finish_1 : decode cX8_finish 1 = .ok (.getfield 22, 3) := by decide +kernel
theorem dX8_finish_4 : decode cX8_finish 4 = .ok (.bipush 30, 2) := by decide +kernel
theorem dX8_finish_6 : decode cX8_finish 6 = .ok (.if_icmp .ge 23, 3) := by decide +kernel
theorem dX8_finish_9 : decode cX8_finish 9 = .ok (.aload_n 0, 1) := by decide +kernel
theorem dX8_finish_10 : decode cX8_finish 10 = .ok (.getfield 19, 3) := by decide +kernel
theorem dX8_finish_13 : decode cX8_finish 13 = .ok (.aload_n 0, 1) := by decide +kernel
theorem dX8_finish_14 : decode cX8_finish 14 = .ok (.getfield 22, 3) := by decide +kernel
theorem dX8_finish_17 : decode cX8_finish 17 = .ok (.iload_n 1, 1) := by decide +kernel
theorem dX8_finish_18 : decode cX8_finish 18 = .ok (.iastore, 1) := by decide +kernel
theorem dX8_finish_19 : decode cX8_finish 19 = .ok (.aload_n 0, 1) := by decide +kernel
theorem dX8_finish_20 : decode cX8_finish 20 = .ok (.dup, 1) := by decide +kernel
theorem dX8_finish_21 : decode cX8_finish 21 = .ok (.getfield 22, 3) := by decide +kernel
theorem dX8_finish_24 : decode cX8_finish 24 = .ok (.iconst 1, 1) := by decide +kernel
theorem dX8_finish_25 : decode cX8_finish 25 = .ok (.iadd, 1) := by decide +kernel
theorem dX8_finish_26 : decode cX8_finish 26 = .ok (.putfield 22, 3) := by decide +kernel
theorem dX8_finish_29 : decode cX8_finish 29 = .ok (.return_, 1) := by decide +kernel
set_option maxRecDepth 20000 in
theorem ggX9_init_X7_init : GoodIn wsX9_init wsX7_init := goodIn_r _ [26, 27, 2, 3, 28, 29, 30, 31, 32, 33, 34, 35, 36, 128, 129, 130, 131, 132, 133, 134] (by decide +kernel) (by decide +kernel)
set_option maxRecDepth 20000 in
theorem gX9_init_X7_init : GoodIn wsX9_init (wsX7_init) := ggX9_init_X7_init
set_option maxRecDepth 20000 in
theorem ggX9_init_X8_init : GoodIn wsX9_init wsX8_init := goodIn_r _ [38, 39, 2, 3, 40, 29, 41, 42, 43, 44, 45, 46, 144, 145, 146, 147, 148, 149, 150] (by decide +kernel) (by decide +kernel)
set_option maxRecDepth 20000 in
theorem gX9_init_X8_init_n33 : GoodIn wsX9_init (wsX8_init) := ggX9_init_X8_init
set_option maxRecDepth 20000 in
theorem ggX9_init_X5_init_h : GoodIn wsX9_init [Cond.code yX5_init cX5_init 1 none] := goodIn_r _ [48] (by decide +kernel) (by decide +kernel)
set_option maxRecDepth 20000 in
theorem ggX9_init_X5_init_0 : GoodIn wsX9_init wsX5_init_r1 := goodIn_r _ [49, 2, 3, 50, 51, 52, 53, 54, 55, 56, 57, 58, 59, 29, 60, 61, 62, 63, 64, 65, 66, 67, 68, 69] (by decide +kernel) (by decide +kernel)
set_option maxRecDepth 20000 in
theorem ggX9_init_X5_init_1 : GoodIn wsX9_init wsX5_init_r2 := goodIn_r _ [70, 71, 72, 73, 74, 75, 76, 77, 78, 79, 80, 81, 82, 83, 84, 85, 86, 87, 88, 89, 90, 91, 92, 93] (by decide +kernel) (by decide +kernel)
set_option maxRecDepth 20000 in
theorem ggX9_init_X5_init_2 : GoodIn wsX9_init wsX5_init_r3 := goodIn_r _ [94, 95, 96, 97, 98, 99, 100, 101, 102, 103, 104, 105, 106, 107, 108, 109, 110, 111, 112, 113, 114, 115, 116, 117] (by decide +kernel) (by decide +kernel)
set_option maxRecDepth 20000 in
theorem ggX9_init_X5_init_3 : GoodIn wsX9_init wsX5_init_r4 := goodIn_r _ [118, 119, 120, 121, 122, 123, 124, 125, 126, 127] (by decide +kernel) (by decide +kernel)
set_option maxRecDepth 20000 in
theorem ggX9_init_X5_init_4 : GoodIn wsX9_init wsX60 := goodIn_r _ [161, 162, 163, 164, 165] (by decide +kernel) (by decide +kernel)
set_option maxRecDepth 20000 in
theorem ggX9_init_X5_init_5 : GoodIn wsX9_init wsX50 := goodIn_r _ [151, 152, 153, 154, 155, 156, 157, 158, 159, 160] (by decide +kernel) (by decide +kernel)
set_option maxRecDepth 20000 in
theorem ggX9_init_X5_init_6 : GoodIn wsX9_init wsX20 := goodIn_r _ [166, 167, 168, 169, 170] (by decide +kernel) (by decide +kernel)
set_option maxRecDepth 20000 in
theorem ggX9_init_X5_init_7 : GoodIn wsX9_init wsX30 := goodIn_r _ [171] (by decide +kernel) (by decide +kernel)
set_option maxRecDepth 20000 in
theorem ggX9_init_X5_init_8 : GoodIn wsX9_init wsX10 := goodIn_r _ [172, 173, 174, 175] (by decide +kernel) (by decide +kernel)
set_option maxRecDepth 20000 in
theorem ggX9_init_X5_init_9 : GoodIn wsX9_init wsX40 := goodIn_r _ [176, 177, 178, 179, 180, 181, 182, 183] (by decide +kernel) (by decide +kernel)
theorem ggX9_init_X5_init : GoodIn wsX9_init wsX5_init := goodIn_app ggX9_init_X5_init_h (goodIn_app (goodIn_app (goodIn_app (goodIn_app (goodIn_app (goodIn_app (goodIn_app ggX9_init_X5_init_0 (goodIn_app ggX9_init_X5_init_1 (goodIn_app ggX9_init_X5_init_2 ggX9_init_X5_init_3))) ggX9_init_X5_init_4) ggX9_init_X5_init_5) ggX9_init_X5_init_6) ggX9_init_X5_init_7) ggX9_init_X5_init_8) ggX9_init_X5_init_9)
set_option maxRecDepth 20000 in
theorem gX9_init_X5_init_n40 : GoodIn wsX9_init (wsX5_init) := ggX9_init_X5_init
