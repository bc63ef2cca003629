theorem dX0_init_0 : decode cX0_init 0 = .ok (.aload_n 0, 1) := by decide +kernel
theorem dX0_init_1 : decode cX0_init 1 = .ok (.invokespecial 1, 3) := by decide +kernel
theorem dX0_init_4 : decode cX0_init 4 = .ok (.aload_n 0, 1) := by decide +kernel
theorem dX0_init_5 : decode cX0_init 5 = .ok (.iconst 0, 1) := by decide +kernel
theorem dX0_init_6 : decode cX0_init 6 = .ok (.iload_n 2, 1) := by decide +kernel
theorem dX0_init_7 : decode cX0_init 7 = .ok (.aload_n 1, 1) := by decide +kernel
theorem dX0_init_8 : decode cX0_init 8 = .ok (.arraylength, 1) := by decide +kernel
theorem dX0_init_9 : decode cX0_init 9 = .ok (.invokestatic 7, 3) := by decide +kernel
theorem dX0_init_12 : decode cX0_init 12 = .ok (.invokestatic 13, 3) := by decide +kernel
theorem dX0_init_15 : decode cX0_init 15 = .ok (.putfield 16, 3) := by decide +kernel
theorem dX0_init_18 : decode cX0_init 18 = .ok (.aload_n 0, 1) := by decide +kernel
theorem dX0_init_19 : decode cX0_init 19 = .ok (.aload_n 0, 1) := by decide +kernel
theorem dX0_init_20 : decode cX0_init 20 = .ok (.getfield 16, 3) := by decide +kernel
theorem dX0_init_23 : decode cX0_init 23 = .ok (.newarray .int, 2) := by decide +kernel
theorem dX0_init_25 : decode cX0_init 25 = .ok (.putfield 22, 3) := by decide +kernel
theorem dX0_init_28 : decode cX0_init 28 = .ok (.iconst 0, 1) := by decide +kernel
theorem dX0_init_29 : decode cX0_init 29 = .ok (.istore_n 3, 1) := by decide +kernel
theorem dX0_init_30 : decode cX0_init 30 = .ok (.iload_n 3, 1) := by decide +kernel
theorem dX0_init_31 : decode cX0_init 31 = .ok (.aload_n 0, 1) := by decide +kernel
theorem dX0_init_32 : decode cX0_init 32 = .ok (.getfield 16, 3) := by decide +kernel
theorem dX0_init_35 : decode cX0_init 35 = .ok (.if_icmp .ge 18, 3) := by decide +kernel
theorem dX0_init_38 : decode cX0_init 38 = .ok (.aload_n 0, 1) := by decide +kernel
theorem dX0_init_39 : decode cX0_init 39 = .ok (.getfield 22, 3) := by decide +kernel
theorem dX0_init_42 : decode cX0_init 42 = .ok (.iload_n 3, 1) := by decide +kernel
theorem dX0_init_43 : decode cX0_init 43 = .ok (.aload_n 1, 1) := by decide +kernel
theorem dX0_init_44 : decode cX0_init 44 = .ok (.iload_n 3, 1) := by decide +kernel
theorem dX0_init_45 : decode cX0_init 45 = .ok (.iaload, 1) := by decide +kernel
theorem dX0_init_46 : decode cX0_init 46 = .ok (.iastore, 1) := by decide +kernel
theorem dX0_init_47 : decode cX0_init 47 = .ok (.iinc 3 1, 3) := by decide +kernel
theorem dX0_init_50 : decode cX0_init 50 = .ok (.goto (-20), 3) := by decide +kernel
theorem dX0_init_53 : decode cX0_init 53 = .ok (.return_, 1) := by decide +kernel
set_option maxRecDepth 20000 in
theorem ggX0_joined_X0_init : GoodIn wsX0_joined wsX0_init := goodIn_r _ [9, 10, 11, 12, 13, 14, 15, 16, 17, 18, 19, 1, 2, 3, 20, 21] (by decide +kernel) (by decide +kernel)
set_option maxRecDepth 20000 in
theorem gX0_joined_X0_init : GoodIn wsX0_joined (wsX0_init) := ggX0_joined_X0_init
theorem dX0_joined_0 : decode cX0_joined 0 = .ok (.aload_n 0, 1) := by decide +kernel
theorem dX0_joined_1 : decode cX0_joined 1 = .ok (.getfield 16, 3) := by decide +kernel
theorem dX0_joined_4 : decode cX0_joined 4 = .ok (.aload_n 1, 1) := by decide +kernel
theorem dX0_joined_5 : decode cX0_joined 5 = .ok (.getfield 16, 3) := by decide +kernel
theorem dX0_joined_8 : decode cX0_joined 8 = .ok (.iadd, 1) := by decide +kernel
theorem dX0_joined_9 : decode cX0_joined 9 = .ok (.iconst 1, 1) := by decide +kernel
theorem dX0_joined_10 : decode cX0_joined 10 = .ok (.iadd, 1) := by decide +kernel
theorem dX0_joined_11 : decode cX0_joined 11 = .ok (.newarray .int, 2) := by decide +kernel
theorem dX0_joined_13 : decode cX0_joined 13 = .ok (.astore_n 3, 1) := by decide +kernel
theorem dX0_joined_14 : decode cX0_joined 14 = .ok (.iconst 0, 1) := by decide +kernel
theorem dX0_joined_15 : decode cX0_joined 15 = .ok (.istore 4, 2) := by decide +kernel
theorem dX0_joined_17 : decode cX0_joined 17 = .ok (.iload 4, 2) := by decide +kernel
theorem dX0_joined_19 : decode cX0_joined 19 = .ok (.aload_n 3, 1) := by decide +kernel
theorem dX0_joined_20 : decode cX0_joined 20 = .ok (.arraylength, 1) := by decide +kernel
theorem dX0_joined_21 : decode cX0_joined 21 = .ok (.if_icmp .ge 57, 3) := by decide +kernel
theorem dX0_joined_24 : decode cX0_joined 24 = .ok (.aload_n 3, 1) := by decide +kernel
theorem dX0_joined_25 : decode cX0_joined 25 = .ok (.iload 4, 2) := by decide +kernel
theorem dX0_joined_27 : decode cX0_joined 27 = .ok (.iload 4, 2) := by decide +kernel
theorem dX0_joined_29 : decode cX0_joined 29 = .ok (.aload_n 0, 1) := by decide +kernel
theorem dX0_joined_30 : decode cX0_joined 30 = .ok (.getfield 16, 3) := by decide +kernel
theorem dX0_joined_33 : decode cX0_joined 33 = .ok (.if_icmp .ge 13, 3) := by decide +kernel
theorem dX0_joined_36 : decode cX0_joined 36 = .ok (.aload_n 0, 1) := by decide +kernel
theorem dX0_joined_37 : decode cX0_joined 37 = .ok (.getfield 22, 3) := by decide +kernel
theorem dX0_joined_40 : decode cX0_joined 40 = .ok (.iload 4, 2) := by decide +kernel
theorem dX0_joined_42 : decode cX0_joined 42 = .ok (.iaload, 1) := by decide +kernel
theorem dX0_joined_43 : decode cX0_joined 43 = .ok (.goto 28, 3) := by decide +kernel
theorem dX0_joined_46 : decode cX0_joined 46 = .ok (.iload 4, 2) := by decide +kernel
theorem dX0_joined_48 : decode cX0_joined 48 = .ok (.iconst 1, 1) := by decide +kernel
theorem dX0_joined_49 : decode cX0_joined 49 = .ok (.iadd, 1) := by decide +kernel
theorem dX0_joined_50 : decode cX0_joined 50 = .ok (.aload_n 3, 1) := by decide +kernel
theorem dX0_joined_51 : decode cX0_joined 51 = .ok (.arraylength, 1) := by decide +kernel
theorem dX0_joined_52 : decode cX0_joined 52 = .ok (.if_icmp .ge 18, 3) := by decide +kernel
theorem dX0_joined_55 : decode cX0_joined 55 = .ok (.aload_n 1, 1) := by decide +kernel
theorem dX0_joined_56 : decode cX0_joined 56 = .ok (.getfield 22, 3) := by decide +kernel
theorem dX0_joined_59 : decode cX0_joined 59 = .ok (.iload 4, 2) := by decide +kernel
theorem dX0_joined_61 : decode cX0_joined 61 = .ok (.aload_n 0, 1) := by decide +kernel
theorem dX0_joined_62 : decode cX0_joined 62 = .ok (.getfield 16, 3) := by decide +kernel
theorem dX0_joined_65 : decode cX0_joined 65 = .ok (.isub, 1) := by decide +kernel
theorem dX0_joined_66 : decode cX0_joined 66 = .ok (.iaload, 1) := by decide +kernel
theorem dX0_joined_67 : decode cX0_joined 67 = .ok (.goto 4, 3) := by decide +kernel
theorem dX0_joined_70 : decode cX0_joined 70 = .ok (.iload_n 2, 1) := by decide +kernel
theorem dX0_joined_71 : decode cX0_joined 71 = .ok (.iastore, 1) := by decide +kernel
theorem dX0_joined_72 : decode cX0_joined 72 = .ok (.iinc 4 1, 3) := by decide +kernel
theorem dX0_joined_75 : decode cX0_joined 75 = .ok (.goto (-58), 3) := by decide +kernel
theorem dX0_joined_78 : decode cX0_joined 78 = .ok (.new 17, 3) := by decide +kernel
theorem dX0_joined_81 : decode cX0_joined 81 = .ok (.dup, 1) := by decide +kernel
theorem dX0_joined_82 : decode cX0_joined 82 = .ok (.aload_n 3, 1) := by decide +kernel
theorem dX0_joined_83 : decode cX0_joined 83 = .ok (.aload_n 3, 1) := by decide +kernel
theorem dX0_joined_84 : decode cX0_joined 84 = .ok (.arraylength, 1) := by decide +kernel
theorem dX0_joined_85 : decode cX0_joined 85 = .ok (.invokespecial 26, 3) := by decide +kernel
theorem dX0_joined_88 : decode cX0_joined 88 = .ok (.areturn, 1) := by decide +kernel
theorem dX0_isSameAs_0 : decode cX0_isSameAs 0 = .ok (.aload_n 0, 1) := by decide +kernel
theorem dX0_isSameAs_1 : decode cX0_isSameAs 1 = .ok (.getfield 16, 3) := by decide +kernel
theorem dX0_isSameAs_4 : decode cX0_isSameAs 4 = .ok (.aload_n 1, 1) := by decide +kernel
theorem dX0_isSameAs_5 : decode cX0_isSameAs 5 = .ok (.getfield 16, 3) := by decide +kernel
theorem dX0_isSameAs_8 : decode cX0_isSameAs 8 = .ok (.if_icmp .eq 5, 3) := by decide +kernel
theorem dX0_isSameAs_11 : decode cX0_isSameAs 11 = .ok (.iconst 0, 1) := by decide +kernel
theorem dX0_isSameAs_12 : decode cX0_isSameAs 12 = .ok (.ireturn, 1) := by decide +kernel
theorem dX0_isSameAs_13 : decode cX0_isSameAs 13 = .ok (.iconst 0, 1) := by decide +kernel
theorem dX0_isSameAs_14 : decode cX0_isSameAs 14 = .ok (.istore_n 2, 1) := by decide +kernel
theorem dX0_isSameAs_15 : decode cX0_isSameAs 15 = .ok (.iload_n 2, 1) := by decide +kernel
theorem dX0_isSameAs_16 : decode cX0_isSameAs 16 = .ok (.aload_n 0, 1) := by decide +kernel
theorem dX0_isSameAs_17 : decode cX0_isSameAs 17 = .ok (.getfield 16, 3) := by decide +kernel
theorem dX0_isSameAs_20 : decode cX0_isSameAs 20 = .ok (.if_icmp .ge 26, 3) := by decide +kernel
theorem dX0_isSameAs_23 : decode cX0_isSameAs 23 = .ok (.aload_n 0, 1) := by decide +kernel
theorem dX0_isSameAs_24 : decode cX0_isSameAs 24 = .ok (.getfield 22, 3) := by decide +kernel
theorem dX0_isSameAs_27 : decode cX0_isSameAs 27 = .ok (.iload_n 2, 1) := by decide +kernel
theorem dX0_isSameAs_28 : decode cX0_isSameAs 28 = .ok (.iaload, 1) := by decide +kernel
theorem dX0_isSameAs_29 : decode cX0_isSameAs 29 = .ok (.aload_n 1, 1) := by decide +kernel
theorem dX0_isSameAs_30 : decode cX0_isSameAs 30 = .ok (.getfield 22, 3) := by decide +kernel
theorem dX0_isSameAs_33 : decode cX0_isSameAs 33 = .ok (.iload_n 2, 1) := by decide +kernel
theorem dX0_isSameAs_34 : decode cX0_isSameAs 34 = .ok (.iaload, 1) := by decide +kernel
theorem dX0_isSameAs_35 : decode cX0_isSameAs 35 = .ok (.if_icmp .eq 5, 3) := by decide +kernel
theorem dX0_isSameAs_38 : decode cX0_isSameAs 38 = .ok (.iconst 0, 1) := by decide +kernel
theorem dX0_isSameAs_39 : decode cX0_isSameAs 39 = .ok (.ireturn, 1) := by decide +kernel
theorem dX0_isSameAs_40 : decode cX0_isSameAs 40 = .ok (.iinc 2 1, 3) := by decide +kernel
theorem dX0_isSameAs_43 : decode cX0_isSameAs 43 = .ok (.goto (-28), 3) := by decide +kernel
theorem dX0_isSameAs_46 : decode cX0_isSameAs 46 = .ok (.iconst 1, 1) := by decide +kernel
theorem dX0_isSameAs_47 : decode cX0_isSameAs 47 = .ok (.ireturn, 1) := by decide +kernel
set_option maxRecDepth 20000 in
theorem ggX1_init_X3_init : GoodIn wsX1_init wsX3_init := goodIn_r _ [13, 14, 2, 3, 15, 16, 17, 22, 23, 24] (by decide +kernel) (by decide +kernel)
set_option maxRecDepth 20000 in
theorem gX1_init_X3_init_n26 : GoodIn wsX1_init (wsX3_init) := ggX1_init_X3_init
theorem dX1_init_0 : decode cX1_init 0 = .ok (.aload_n 0, 1) := by decide +kernel
theorem dX1_init_1 : decode cX1_init 1 = .ok (.invokespecial 1, 3) := by decide +kernel
theorem dX1_init_4 : decode cX1_init 4 = .ok (.aload_n 0, 1) := by decide +kernel
theorem dX1_init_5 : decode cX1_init 5 = .ok (.iconst 0, 1) := by decide +kernel
theorem dX1_init_6 : decode cX1_init 6 = .ok (.putfield 7, 3) := by decide +kernel
theorem dX1_init_9 : decode cX1_init 9 = .ok (.aload_n 0, 1) := by decide +kernel
theorem dX1_init_10 : decode cX1_init 10 = .ok (.sipush 128, 3) := by decide +kernel
theorem dX1_init_13 : decode cX1_init 13 = .ok (.anewarray 13, 3) := by decide +kernel
theorem dX1_init_16 : decode cX1_init 16 = .ok (.putfield 15, 3) := by decide +kernel
theorem dX1_init_19 : decode cX1_init 19 = .ok (.aload_n 0, 1) := by decide +kernel
theorem dX1_init_20 : decode cX1_init 20 = .ok (.sipush 128, 3) := by decide +kernel
theorem dX1_init_23 : decode cX1_init 23 = .ok (.newarray .int, 2) := by decide +kernel
theorem dX1_init_25 : decode cX1_init 25 = .ok (.putfield 19, 3) := by decide +kernel
theorem dX1_init_28 : decode cX1_init 28 = .ok (.aload_n 0, 1) := by decide +kernel
theorem dX1_init_29 : decode cX1_init 29 = .ok (.iconst 0, 1) := by decide +kernel
theorem dX1_init_30 : decode cX1_init 30 = .ok (.putfield 23, 3) := by decide +kernel
theorem dX1_init_33 : decode cX1_init 33 = .ok (.iconst 0, 1) := by decide +kernel
theorem dX1_init_34 : decode cX1_init 34 = .ok (.istore_n 1, 1) := by decide +kernel
theorem dX1_init_35 : decode cX1_init 35 = .ok (.iload_n 1, 1) := by decide +kernel
theorem dX1_init_36 : decode cX1_init 36 = .ok (.sipush 128, 3) := by decide +kernel
theorem dX1_init_39 : decode cX1_init 39 = .ok (.if_icmp .ge 22, 3) := by decide +kernel
theorem dX1_init_42 : decode cX1_init 42 = .ok (.aload_n 0, 1) := by decide +kernel
theorem dX1_init_43 : decode cX1_init 43 = .ok (.getfield 15, 3) := by decide +kernel
theorem dX1_init_46 : decode cX1_init 46 = .ok (.iload_n 1, 1) := by decide +kernel
theorem dX1_init_47 : decode cX1_init 47 = .ok (.new 13, 3) := by decide +kernel
theorem dX1_init_50 : decode cX1_init 50 = .ok (.dup, 1) := by decide +kernel
theorem dX1_init_51 : decode cX1_init 51 = .ok (.invokespecial 26, 3) := by decide +kernel
theorem dX1_init_54 : decode cX1_init 54 = .ok (.aastore, 1) := by decide +kernel
theorem dX1_init_55 : decode cX1_init 55 = .ok (.iinc 1 1, 3) := by decide +kernel
theorem dX1_init_58 : decode cX1_init 58 = .ok (.goto (-23), 3) := by decide +kernel
theorem dX1_init_61 : decode cX1_init 61 = .ok (.return_, 1) := by decide +kernel
theorem dX1_clear_0 : decode cX1_clear 0 = .ok (.aload_n 0, 1) := by decide +kernel
theorem dX1_clear_1 : decode cX1_clear 1 = .ok (.iconst 0, 1) := by decide +kernel
theorem dX1_clear_2 : decode cX1_clear 2 = .ok (.putfield 7, 3) := by decide +kernel
theorem dX1_clear_5 : decode cX1_clear 5 = .ok (.aload_n 0, 1) := by decide +kernel
theorem dX1_clear_6 : decode cX1_clear 6 = .ok (.iconst 0, 1) := by decide +kernel
theorem dX1_clear_7 : decode cX1_clear 7 = .ok (.putfield 23, 3) := by decide +kernel
theorem dX1_clear_10 : decode cX1_clear 10 = .ok (.return_, 1) := by decide +kernel
set_option maxRecDepth 20000 in
theorem ggX1_add_X3_takeFrom : GoodIn wsX1_add wsX3_takeFrom := goodIn_r _ [13, 14, 15, 16, 21, 22, 23] (by decide +kernel) (by decide +kernel)
set_option maxRecDepth 20000 in
theorem gX1_add_X3_takeFrom : GoodIn wsX1_add (wsV RX1 27 RX3 yX3_takeFrom wsX3_takeFrom) := goodIn_app (goodIn_of _ (by decide +kernel)) ggX1_add_X3_takeFrom
theorem dX1_add_0 : decode cX1_add 0 = .ok (.aload_n 0, 1) := by decide +kernel
theorem dX1_add_1 : decode cX1_add 1 = .ok (.getfield 23, 3) := by decide +kernel
theorem dX1_add_4 : decode cX1_add 4 = .ok (.ifCond .lt 13, 3) := by decide +kernel
theorem dX1_add_7 : decode cX1_add 7 = .ok (.aload_n 0, 1) := by decide +kernel
theorem dX1_add_8 : decode cX1_add 8 = .ok (.getfield 23, 3) := by decide +kernel
theorem dX1_add_11 : decode cX1_add 11 = .ok (.sipush 128, 3) := by decide +kernel
theorem dX1_add_14 : decode cX1_add 14 = .ok (.if_icmp .lt 8, 3) := by decide +kernel
theorem dX1_add_17 : decode cX1_add 17 = .ok (.aload_n 0, 1) := by decide +kernel
theorem dX1_add_18 : decode cX1_add 18 = .ok (.iconst 0, 1) := by decide +kernel
theorem dX1_add_19 : decode cX1_add 19 = .ok (.putfield 23, 3) := by decide +kernel
theorem dX1_add_22 : decode cX1_add 22 = .ok (.aload_n 0, 1) := by decide +kernel
theorem dX1_add_23 : decode cX1_add 23 = .ok (.getfield 15, 3) := by decide +kernel
theorem dX1_add_26 : decode cX1_add 26 = .ok (.aload_n 0, 1) := by decide +kernel
theorem dX1_add_27 : decode cX1_add 27 = .ok (.getfield 23, 3) := by decide +kernel
theorem dX1_add_30 : decode cX1_add 30 = .ok (.aaload, 1) := by decide +kernel
theorem dX1_add_31 : decode cX1_add 31 = .ok (.aload_n 1, 1) := by decide +kernel
theorem dX1_add_32 : decode cX1_add 32 = .ok (.invokevirtual 27, 3) := by decide +kernel
theorem dX1_add_35 : decode cX1_add 35 = .ok (.aload_n 0, 1) := by decide +kernel
theorem dX1_add_36 : decode cX1_add 36 = .ok (.getfield 19, 3) := by decide +kernel
theorem dX1_add_39 : decode cX1_add 39 = .ok (.aload_n 0, 1) := by decide +kernel
theorem dX1_add_40 : decode cX1_add 40 = .ok (.getfield 23, 3) := by decide +kernel
theorem dX1_add_43 : decode cX1_add 43 = .ok (.iload_n 2, 1) := by decide +kernel
theorem dX1_add_44 : decode cX1_add 44 = .ok (.iastore, 1) := by decide +kernel
theorem dX1_add_45 : decode cX1_add 45 = .ok (.aload_n 0, 1) := by decide +kernel
theorem dX1_add_46 : decode cX1_add 46 = .ok (.dup, 1) := by decide +kernel
theorem dX1_add_47 : decode cX1_add 47 = .ok (.getfield 23, 3) := by decide +kernel
theorem dX1_add_50 : decode cX1_add 50 = .ok (.iconst 1, 1) := by decide +kernel
theorem dX1_add_51 : decode cX1_add 51 = .ok (.iadd, 1) := by decide +kernel
theorem dX1_add_52 : decode cX1_add 52 = .ok (.putfield 23, 3) := by decide +kernel
theorem dX1_add_55 : decode cX1_add 55 = .ok (.aload_n 0, 1) := by decide +kernel
theorem dX1_add_56 : decode cX1_add 56 = .ok (.aload_n 0, 1) := by decide +kernel
theorem dX1_add_57 : decode cX1_add 57 = .ok (.getfield 7, 3) := by decide +kernel
theorem dX1_add_60 : decode cX1_add 60 = .ok (.aload_n 0, 1) := by decide +kernel
theorem dX1_add_61 : decode cX1_add 61 = .ok (.getfield 23, 3) := by decide +kernel
theorem dX1_add_64 : decode cX1_add 64 = .ok (.invokestatic 31, 3) := by decide +kernel
theorem dX1_add_67 : decode cX1_add 67 = .ok (.putfield 7, 3) := by decide +kernel
theorem dX1_add_70 : decode cX1_add 70 = .ok (.return_, 1) := by decide +kernel
set_option maxRecDepth 20000 in
theorem ggX2_init_X3_init : GoodIn wsX2_init wsX3_init := goodIn_r _ [13, 14, 2, 3, 15, 16, 17, 18, 19, 20] (by decide +kernel) (by decide +kernel)
set_option maxRecDepth 20000 in
theorem gX2_init_X3_init_n9 : GoodIn wsX2_init (wsX3_init) := ggX2_init_X3_init
theorem dX2_init_0 : decode cX2_init 0 = .ok (.aload_n 0, 1) := by decide +kernel
theorem dX2_init_1 : decode cX2_init 1 = .ok (.invokespecial 1, 3) := by decide +kernel
theorem dX2_init_4 : decode cX2_init 4 = .ok (.aload_n 0, 1) := by decide +kernel
theorem dX2_init_5 : decode cX2_init 5 = .ok (.new 7, 3) := by decide +kernel
theorem dX2_init_8 : decode cX2_init 8 = .ok (.dup, 1) := by decide +kernel
theorem dX2_init_9 : decode cX2_init 9 = .ok (.invokespecial 9, 3) := by decide +kernel
theorem dX2_init_12 : decode cX2_init 12 = .ok (.putfield 10, 3) := by decide +kernel
theorem dX2_init_15 : decode cX2_init 15 = .ok (.aload_n 0, 1) := by decide +kernel
theorem dX2_init_16 : decode cX2_init 16 = .ok (.new 7, 3) := by decide +kernel
theorem dX2_init_19 : decode cX2_init 19 = .ok (.dup, 1) := by decide +kernel
theorem dX2_init_20 : decode cX2_init 20 = .ok (.invokespecial 9, 3) := by decide +kernel
theorem dX2_init_23 : decode cX2_init 23 = .ok (.putfield 16, 3) := by decide +kernel
theorem dX2_init_26 : decode cX2_init 26 = .ok (.aload_n 0, 1) := by decide +kernel
theorem dX2_init_27 : decode cX2_init 27 = .ok (.new 7, 3) := by decide +kernel
theorem dX2_init_30 : decode cX2_init 30 = .ok (.dup, 1) := by decide +kernel
theorem dX2_init_31 : decode cX2_init 31 = .ok (.invokespecial 9, 3) := by decide +kernel
theorem dX2_init_34 : decode cX2_init 34 = .ok (.putfield 19, 3) := by decide +kernel
theorem dX2_init_37 : decode cX2_init 37 = .ok (.aload_n 0, 1) := by decide +kernel
theorem dX2_init_38 : decode cX2_init 38 = .ok (.new 7, 3) := by decide +kernel
theorem dX2_init_41 : decode cX2_init 41 = .ok (.dup, 1) := by decide +kernel
theorem dX2_init_42 : decode cX2_init 42 = .ok (.invokespecial 9, 3) := by decide +kernel
theorem dX2_init_45 : decode cX2_init 45 = .ok (.putfield 22, 3) := by decide +kernel
theorem dX2_init_48 : decode cX2_init 48 = .ok (.aload_n 0, 1) := by decide +kernel
theorem dX2_init_49 : decode cX2_init 49 = .ok (.iconst 0, 1) := by decide +kernel
theorem dX2_init_50 : decode cX2_init 50 = .ok (.putfield 25, 3) := by decide +kernel
theorem dX2_init_53 : decode cX2_init 53 = .ok (.return_, 1) := by decide +kernel
theorem dX3_init_0 : decode cX3_init 0 = .ok (.aload_n 0, 1) := by decide +kernel
theorem dX3_init_1 : decode cX3_init 1 = .ok (.invokespecial 1, 3) := by decide +kernel
theorem dX3_init_4 : decode cX3_init 4 = .ok (.aload_n 0, 1) := by decide +kernel
theorem dX3_init_5 : decode cX3_init 5 = .ok (.lconst 0, 1) := by decide +kernel
theorem dX3_init_6 : decode cX3_init 6 = .ok (.putfield 7, 3) := by decide +kernel
theorem dX3_init_9 : decode cX3_init 9 = .ok (.aload_n 0, 1) := by decide +kernel
theorem dX3_init_10 : decode cX3_init 10 = .ok (.lconst 0, 1) := by decide +kernel
theorem dX3_init_11 : decode cX3_init 11 = .ok (.putfield 13, 3) := by decide +kernel
theorem dX3_init_14 : decode cX3_init 14 = .ok (.aload_n 0, 1) := by decide +kernel
theorem dX3_init_15 : decode cX3_init 15 = .ok (.lconst 0, 1) := by decide +kernel
theorem dX3_init_16 : decode cX3_init 16 = .ok (.putfield 16, 3) := by decide +kernel
theorem dX3_init_19 : decode cX3_init 19 = .ok (.return_, 1) := by decide +kernel
theorem dX3_fill_0 : decode cX3_fill 0 = .ok (.aload_n 0, 1) := by decide +kernel
theorem dX3_fill_1 : decode cX3_fill 1 = .ok (.iload_n 1, 1) := by decide +kernel
theorem dX3_fill_2 : decode cX3_fill 2 = .ok (.ifCond .eq 9, 3) := by decide +kernel
theorem dX3_fill_5 : decode cX3_fill 5 = .ok (.ldc2_w 19, 3) := by decide +kernel
theorem dX3_fill_8 : decode cX3_fill 8 = .ok (.goto 4, 3) := by decide +kernel
theorem dX3_fill_11 : decode cX3_fill 11 = .ok (.lconst 0, 1) := by decide +kernel
theorem dX3_fill_12 : decode cX3_fill 12 = .ok (.putfield 7, 3) := by decide +kernel
theorem dX3_fill_15 : decode cX3_fill 15 = .ok (.aload_n 0, 1) := by decide +kernel
theorem dX3_fill_16 : decode cX3_fill 16 = .ok (.aload_n 0, 1) := by decide +kernel
theorem dX3_fill_17 : decode cX3_fill 17 = .ok (.getfield 7, 3) := by decide +kernel
theorem dX3_fill_20 : decode cX3_fill 20 = .ok (.putfield 13, 3) := by decide +kernel
theorem dX3_fill_23 : decode cX3_fill 23 = .ok (.aload_n 0, 1) := by decide +kernel
theorem dX3_fill_24 : decode cX3_fill 24 = .ok (.aload_n 0, 1) := by decide +kernel
theorem dX3_fill_25 : decode cX3_fill 25 = .ok (.getfield 7, 3) := by decide +kernel
theorem dX3_fill_28 : decode cX3_fill 28 = .ok (.putfield 16, 3) := by decide +kernel
theorem dX3_fill_31 : decode cX3_fill 31 = .ok (.return_, 1) := by decide +kernel
theorem dX3_takeFrom_0 : decode cX3_takeFrom 0 = .ok (.aload_n 0, 1) := by decide +kernel
theorem dX3_takeFrom_1 : decode cX3_takeFrom 1 = .ok (.aload_n 1, 1) := by decide +kernel
theorem dX3_takeFrom_2 : decode cX3_takeFrom 2 = .ok (.getfield 7, 3) := by decide +kernel
theorem dX3_takeFrom_5 : decode cX3_takeFrom 5 = .ok (.putfield 7, 3) := by decide +kernel
theorem dX3_takeFrom_8 : decode cX3_takeFrom 8 = .ok (.aload_n 0, 1) := by decide +kernel
theorem dX3_takeFrom_9 : decode cX3_takeFrom 9 = .ok (.aload_n 1, 1) := by decide +kernel
theorem dX3_takeFrom_10 : decode cX3_takeFrom 10 = .ok (.getfield 13, 3) := by decide +kernel
theorem dX3_takeFrom_13 : decode cX3_takeFrom 13 = .ok (.putfield 13, 3) := by decide +kernel
theorem dX3_takeFrom_16 : decode cX3_takeFrom 16 = .ok (.aload_n 0, 1) := by decide +kernel
theorem dX3_takeFrom_17 : decode cX3_takeFrom 17 = .ok (.aload_n 1, 1) := by decide +kernel
theorem dX3_takeFrom_18 : decode cX3_takeFrom 18 = .ok (.getfield 16, 3) := by decide +kernel
theorem dX3_takeFrom_21 : decode cX3_takeFrom 21 = .ok (.putfield 16, 3) := by decide +kernel
theorem dX3_takeFrom_24 : decode cX3_takeFrom 24 = .ok (.return_, 1) := by decide +kernel
theorem dX3_keepOnly_0 : decode cX3_keepOnly 0 = .ok (.aload_n 0, 1) := by decide +kernel
theorem dX3_keepOnly_1 : decode cX3_keepOnly 1 = .ok (.dup, 1) := by decide +kernel
theorem dX3_keepOnly_2 : decode cX3_keepOnly 2 = .ok (.getfield 7, 3) := by decide +kernel
theorem dX3_keepOnly_5 : decode cX3_keepOnly 5 = .ok (.aload_n 1, 1) := by decide +kernel
theorem dX3_keepOnly_6 : decode cX3_keepOnly 6 = .ok (.getfield 7, 3) := by decide +kernel
theorem dX3_keepOnly_9 : decode cX3_keepOnly 9 = .ok (.land, 1) := by decide +kernel
theorem dX3_keepOnly_10 : decode cX3_keepOnly 10 = .ok (.putfield 7, 3) := by decide +kernel
theorem dX3_keepOnly_13 : decode cX3_keepOnly 13 = .ok (.aload_n 0, 1) := by decide +kernel
theorem dX3_keepOnly_14 : decode cX3_keepOnly 14 = .ok (.dup, 1) := by decide +kernel
theorem dX3_keepOnly_15 : decode cX3_keepOnly 15 = .ok (.getfield 13, 3) := by decide +kernel
theorem dX3_keepOnly_18 : decode cX3_keepOnly 18 = .ok (.aload_n 1, 1) := by decide +kernel
theorem dX3_keepOnly_19 : decode cX3_keepOnly 19 = .ok (.getfield 13, 3) := by decide +kernel
theorem dX3_keepOnly_22 : decode cX3_keepOnly 22 = .ok (.land, 1) := by decide +kernel
theorem dX3_keepOnly_23 : decode cX3_keepOnly 23 = .ok (.putfield 13, 3) := by decide +kernel
theorem dX3_keepOnly_26 : decode cX3_keepOnly 26 = .ok (.aload_n 0, 1) := by decide +kernel
theorem dX3_keepOnly_27 : decode cX3_keepOnly 27 = .ok (.dup, 1) := by decide +kernel
theorem dX3_keepOnly_28 : decode cX3_keepOnly 28 = .ok (.getfield 16, 3) := by decide +kernel
theorem dX3_keepOnly_31 : decode cX3_keepOnly 31 = .ok (.aload_n 1, 1) := by decide +kernel
theorem dX3_keepOnly_32 : decode cX3_keepOnly 32 = .ok (.getfield 16, 3) := by decide +kernel
theorem dX3_keepOnly_35 : decode cX3_keepOnly 35 = .ok (.land, 1) := by decide +kernel
theorem dX3_keepOnly_36 : decode cX3_keepOnly 36 = .ok (.putfield 16, 3) := by decide +kernel
theorem dX3_keepOnly_39 : decode cX3_keepOnly 39 = .ok (.return_, 1) := by decide +kernel
theorem dX3_isWithin_0 : decode cX3_isWithin 0 = .ok (.aload_n 0, 1) := by decide +kernel
theorem dX3_isWithin_1 : decode cX3_isWithin 1 = .ok (.getfield 7, 3) := by decide +kernel
theorem dX3_isWithin_4 : decode cX3_isWithin 4 = .ok (.aload_n 1, 1) := by decide +kernel
theorem dX3_isWithin_5 : decode cX3_isWithin 5 = .ok (.getfield 7, 3) := by decide +kernel
theorem dX3_isWithin_8 : decode cX3_isWithin 8 = .ok (.ldc2_w 19, 3) := by decide +kernel
theorem dX3_isWithin_11 : decode cX3_isWithin 11 = .ok (.lxor, 1) := by decide +kernel
theorem dX3_isWithin_12 : decode cX3_isWithin 12 = .ok (.land, 1) := by decide +kernel
theorem dX3_isWithin_13 : decode cX3_isWithin 13 = .ok (.lconst 0, 1) := by decide +kernel
theorem dX3_isWithin_14 : decode cX3_isWithin 14 = .ok (.lcmp, 1) := by decide +kernel
theorem dX3_isWithin_15 : decode cX3_isWithin 15 = .ok (.ifCond .ne 43, 3) := by decide +kernel
theorem dX3_isWithin_18 : decode cX3_isWithin 18 = .ok (.aload_n 0, 1) := by decide +kernel
theorem dX3_isWithin_19 : decode cX3_isWithin 19 = .ok (.getfield 13, 3) := by decide +kernel
theorem dX3_isWithin_22 : decode cX3_isWithin 22 = .ok (.aload_n 1, 1) := by decide +kernel
theorem dX3_isWithin_23 : decode cX3_isWithin 23 = .ok (.getfield 13, 3) := by decide +kernel
theorem dX3_isWithin_26 : decode cX3_isWithin 26 = .ok (.ldc2_w 19, 3) := by decide +kernel
theorem dX3_isWithin_29 : decode cX3_isWithin 29 = .ok (.lxor, 1) := by decide +kernel
theorem dX3_isWithin_30 : decode cX3_isWithin 30 = .ok (.land, 1) := by decide +kernel
theorem dX3_isWithin_31 : decode cX3_isWithin 31 = .ok (.lconst 0, 1) := by decide +kernel
theorem dX3_isWithin_32 : decode cX3_isWithin 32 = .ok (.lcmp, 1) := by decide +kernel
theorem dX3_isWithin_33 : decode cX3_isWithin 33 = .ok (.ifCond .ne 25, 3) := by decide +kernel
theorem dX3_isWithin_36 : decode cX3_isWithin 36 = .ok (.aload_n 0, 1) := by decide +kernel
theorem dX3_isWithin_37 : decode cX3_isWithin 37 = .ok (.getfield 16, 3) := by decide +kernel
theorem dX3_isWithin_40 : decode cX3_isWithin 40 = .ok (.aload_n 1, 1) := by decide +kernel
theorem dX3_isWithin_41 : decode cX3_isWithin 41 = .ok (.getfield 16, 3) := by decide +kernel
theorem dX3_isWithin_44 : decode cX3_isWithin 44 = .ok (.ldc2_w 19, 3) := by decide +kernel
theorem dX3_isWithin_47 : decode cX3_isWithin 47 = .ok (.lxor, 1) := by decide +kernel
theorem dX3_isWithin_48 : decode cX3_isWithin 48 = .ok (.land, 1) := by decide +kernel
theorem dX3_isWithin_49 : decode cX3_isWithin 49 = .ok (.lconst 0, 1) := by decide +kernel
theorem dX3_isWithin_50 : decode cX3_isWithin 50 = .ok (.lcmp, 1) := by decide +kernel
theorem dX3_isWithin_51 : decode cX3_isWithin 51 = .ok (.ifCond .ne 7, 3) := by decide +kernel
theorem dX3_isWithin_54 : decode cX3_isWithin 54 = .ok (.iconst 1, 1) := by decide +kernel
theorem dX3_isWithin_55 : decode cX3_isWithin 55 = .ok (.goto 4, 3) := by decide +kernel
theorem dX3_isWithin_58 : decode cX3_isWithin 58 = .ok (.iconst 0, 1) := by decide +kernel
theorem dX3_isWithin_59 : decode cX3_isWithin 59 = .ok (.ireturn, 1) := by decide +kernel
theorem dX3_has_0 : decode cX3_has 0 = .ok (.iload_n 1, 1) := by decide +kernel
theorem dX3_has_1 : decode cX3_has 1 = .ok (.bipush 64, 2) := by decide +kernel
theorem dX3_has_3 : decode cX3_has 3 = .ok (.if_icmp .ge 10, 3) := by decide +kernel
theorem dX3_has_6 : decode cX3_has 6 = .ok (.aload_n 0, 1) := by decide +kernel
theorem dX3_has_7 : decode cX3_has 7 = .ok (.getfield 7, 3) := by decide +kernel
theorem dX3_has_10 : decode cX3_has 10 = .ok (.goto 21, 3) := by decide +kernel
theorem dX3_has_13 : decode cX3_has 13 = .ok (.iload_n 1, 1) := by decide +kernel
theorem dX3_has_14 : decode cX3_has 14 = .ok (.sipush 128, 3) := by decide +kernel
theorem dX3_has_17 : decode cX3_has 17 = .ok (.if_icmp .ge 10, 3) := by decide +kernel
theorem dX3_has_20 : decode cX3_has 20 = .ok (.aload_n 0, 1) := by decide +kernel
theorem dX3_has_21 : decode cX3_has 21 = .ok (.getfield 13, 3) := by decide +kernel
theorem dX3_has_24 : decode cX3_has 24 = .ok (.goto 7, 3) := by decide +kernel
theorem dX3_has_27 : decode cX3_has 27 = .ok (.aload_n 0, 1) := by decide +kernel
theorem dX3_has_28 : decode cX3_has 28 = .ok (.getfield 16, 3) := by decide +kernel
theorem dX3_has_31 : decode cX3_has 31 = .ok (.lstore_n 2, 1) := by decide +kernel
theorem dX3_has_32 : decode cX3_has 32 = .ok (.lload_n 2, 1) := by decide +kernel
theorem dX3_has_33 : decode cX3_has 33 = .ok (.iload_n 1, 1) := by decide +kernel
theorem dX3_has_34 : decode cX3_has 34 = .ok (.bipush 63, 2) := by decide +kernel
theorem dX3_has_36 : decode cX3_has 36 = .ok (.iand, 1) := by decide +kernel
theorem dX3_has_37 : decode cX3_has 37 = .ok (.lushr, 1) := by decide +kernel
theorem dX3_has_38 : decode cX3_has 38 = .ok (.lconst 1, 1) := by decide +kernel
theorem dX3_has_39 : decode cX3_has 39 = .ok (.land, 1) := by decide +kernel
theorem dX3_has_40 : decode cX3_has 40 = .ok (.lconst 0, 1) := by decide +kernel
theorem dX3_has_41 : decode cX3_has 41 = .ok (.lcmp, 1) := by decide +kernel
theorem dX3_has_42 : decode cX3_has 42 = .ok (.ifCond .eq 7, 3) := by decide +kernel
theorem dX3_has_45 : decode cX3_has 45 = .ok (.iconst 1, 1) := by decide +kernel
theorem dX3_has_46 : decode cX3_has 46 = .ok (.goto 4, 3) := by decide +kernel
theorem dX3_has_49 : decode cX3_has 49 = .ok (.iconst 0, 1) := by decide +kernel
theorem dX3_has_50 : decode cX3_has 50 = .ok (.ireturn, 1) := by decide +kernel
theorem dX3_set_0 : decode cX3_set 0 = .ok (.lconst 1, 1) := by decide +kernel
theorem dX3_set_1 : decode cX3_set 1 = .ok (.iload_n 1, 1) := by decide +kernel
theorem dX3_set_2 : decode cX3_set 2 = .ok (.bipush 63, 2) := by decide +kernel
theorem dX3_set_4 : decode cX3_set 4 = .ok (.iand, 1) := by decide +kernel
theorem dX3_set_5 : decode cX3_set 5 = .ok (.lshl, 1) := by decide +kernel
theorem dX3_set_6 : decode cX3_set 6 = .ok (.lstore_n 3, 1) := by decide +kernel
theorem dX3_set_7 : decode cX3_set 7 = .ok (.iload_n 1, 1) := by decide +kernel
theorem dX3_set_8 : decode cX3_set 8 = .ok (.bipush 64, 2) := by decide +kernel
theorem dX3_set_10 : decode cX3_set 10 = .ok (.if_icmp .ge 33, 3) := by decide +kernel
theorem dX3_set_13 : decode cX3_set 13 = .ok (.aload_n 0, 1) := by decide +kernel
theorem dX3_set_14 : decode cX3_set 14 = .ok (.iload_n 2, 1) := by decide +kernel
theorem dX3_set_15 : decode cX3_set 15 = .ok (.ifCond .eq 12, 3) := by decide +kernel
theorem dX3_set_18 : decode cX3_set 18 = .ok (.aload_n 0, 1) := by decide +kernel
theorem dX3_set_19 : decode cX3_set 19 = .ok (.getfield 7, 3) := by decide +kernel
theorem dX3_set_22 : decode cX3_set 22 = .ok (.lload_n 3, 1) := by decide +kernel
theorem dX3_set_23 : decode cX3_set 23 = .ok (.lor, 1) := by decide +kernel
theorem dX3_set_24 : decode cX3_set 24 = .ok (.goto 13, 3) := by decide +kernel
theorem dX3_set_27 : decode cX3_set 27 = .ok (.aload_n 0, 1) := by decide +kernel
theorem dX3_set_28 : decode cX3_set 28 = .ok (.getfield 7, 3) := by decide +kernel
theorem dX3_set_31 : decode cX3_set 31 = .ok (.lload_n 3, 1) := by decide +kernel
theorem dX3_set_32 : decode cX3_set 32 = .ok (.ldc2_w 19, 3) := by decide +kernel
theorem dX3_set_35 : decode cX3_set 35 = .ok (.lxor, 1) := by decide +kernel
theorem dX3_set_36 : decode cX3_set 36 = .ok (.land, 1) := by decide +kernel
theorem dX3_set_37 : decode cX3_set 37 = .ok (.putfield 7, 3) := by decide +kernel
theorem dX3_set_40 : decode cX3_set 40 = .ok (.goto 67, 3) := by decide +kernel
theorem dX3_set_43 : decode cX3_set 43 = .ok (.iload_n 1, 1) := by decide +kernel
theorem dX3_set_44 : decode cX3_set 44 = .ok (.sipush 128, 3) := by decide +kernel
theorem dX3_set_47 : decode cX3_set 47 = .ok (.if_icmp .ge 33, 3) := by decide +kernel
theorem dX3_set_50 : decode cX3_set 50 = .ok (.aload_n 0, 1) := by decide +kernel
theorem dX3_set_51 : decode cX3_set 51 = .ok (.iload_n 2, 1) := by decide +kernel
theorem dX3_set_52 : decode cX3_set 52 = .ok (.ifCond .eq 12, 3) := by decide +kernel
theorem dX3_set_55 : decode cX3_set 55 = .ok (.aload_n 0, 1) := by decide +kernel
theorem dX3_set_56 : decode cX3_set 56 = .ok (.getfield 13, 3) := by decide +kernel
theorem dX3_set_59 : decode cX3_set 59 = .ok (.lload_n 3, 1) := by decide +kernel
theorem dX3_set_60 : decode cX3_set 60 = .ok (.lor, 1) := by decide +kernel
theorem dX3_set_61 : decode cX3_set 61 = .ok (.goto 13, 3) := by decide +kernel
theorem dX3_set_64 : decode cX3_set 64 = .ok (.aload_n 0, 1) := by decide +kernel
theorem dX3_set_65 : decode cX3_set 65 = .ok (.getfield 13, 3) := by decide +kernel
theorem dX3_set_68 : decode cX3_set 68 = .ok (.lload_n 3, 1) := by decide +kernel
theorem dX3_set_69 : decode cX3_set 69 = .ok (.ldc2_w 19, 3) := by decide +kernel
theorem dX3_set_72 : decode cX3_set 72 = .ok (.lxor, 1) := by decide +kernel
theorem dX3_set_73 : decode cX3_set 73 = .ok (.land, 1) := by decide +kernel
theorem dX3_set_74 : decode cX3_set 74 = .ok (.putfield 13, 3) := by decide +kernel
theorem dX3_set_77 : decode cX3_set 77 = .ok (.goto 30, 3) := by decide +kernel
theorem dX3_set_80 : decode cX3_set 80 = .ok (.aload_n 0, 1) := by decide +kernel
theorem dX3_set_81 : decode cX3_set 81 = .ok (.iload_n 2, 1) := by decide +kernel
theorem dX3_set_82 : decode cX3_set 82 = .ok (.ifCond .eq 12, 3) := by decide +kernel
theorem dX3_set_85 : decode cX3_set 85 = .ok (.aload_n 0, 1) := by decide +kernel
theorem dX3_set_86 : decode cX3_set 86 = .ok (.getfield 16, 3) := by decide +kernel
theorem dX3_set_89 : decode cX3_set 89 = .ok (.lload_n 3, 1) := by decide +kernel
theorem dX3_set_90 : decode cX3_set 90 = .ok (.lor, 1) := by decide +kernel
theorem dX3_set_91 : decode cX3_set 91 = .ok (.goto 13, 3) := by decide +kernel
theorem dX3_set_94 : decode cX3_set 94 = .ok (.aload_n 0, 1) := by decide +kernel
theorem dX3_set_95 : decode cX3_set 95 = .ok (.getfield 16, 3) := by decide +kernel
theorem dX3_set_98 : decode cX3_set 98 = .ok (.lload_n 3, 1) := by decide +kernel
theorem dX3_set_99 : decode cX3_set 99 = .ok (.ldc2_w 19, 3) := by decide +kernel
theorem dX3_set_102 : decode cX3_set 102 = .ok (.lxor, 1) := by decide +kernel
theorem dX3_set_103 : decode cX3_set 103 = .ok (.land, 1) := by decide +kernel
theorem dX3_set_104 : decode cX3_set 104 = .ok (.putfield 16, 3) := by decide +kernel
theorem dX3_set_107 : decode cX3_set 107 = .ok (.return_, 1) := by decide +kernel
theorem dX4_init_0 : decode cX4_init 0 = .ok (.aload_n 0, 1) := by decide +kernel
theorem dX4_init_1 : decode cX4_init 1 = .ok (.invokespecial 5, 3) := by decide +kernel
theorem dX4_init_4 : decode cX4_init 4 = .ok (.aload_n 0, 1) := by decide +kernel
theorem dX4_init_5 : decode cX4_init 5 = .ok (.bipush 6, 2) := by decide +kernel
theorem dX4_init_7 : decode cX4_init 7 = .ok (.putfield 11, 3) := by decide +kernel
theorem dX4_init_10 : decode cX4_init 10 = .ok (.aload_n 0, 1) := by decide +kernel
theorem dX4_init_11 : decode cX4_init 11 = .ok (.sipush 151, 3) := by decide +kernel
theorem dX4_init_14 : decode cX4_init 14 = .ok (.newarray .int, 2) := by decide +kernel
theorem dX4_init_16 : decode cX4_init 16 = .ok (.putfield 15, 3) := by decide +kernel
theorem dX4_init_19 : decode cX4_init 19 = .ok (.aload_n 0, 1) := by decide +kernel
theorem dX4_init_20 : decode cX4_init 20 = .ok (.sipush 151, 3) := by decide +kernel
theorem dX4_init_23 : decode cX4_init 23 = .ok (.newarray .int, 2) := by decide +kernel
theorem dX4_init_25 : decode cX4_init 25 = .ok (.putfield 19, 3) := by decide +kernel
theorem dX4_init_28 : decode cX4_init 28 = .ok (.aload_n 0, 1) := by decide +kernel
theorem dX4_init_29 : decode cX4_init 29 = .ok (.sipush 151, 3) := by decide +kernel
theorem dX4_init_32 : decode cX4_init 32 = .ok (.newarray .int, 2) := by decide +kernel
theorem dX4_init_34 : decode cX4_init 34 = .ok (.putfield 22, 3) := by decide +kernel
theorem dX4_init_37 : decode cX4_init 37 = .ok (.aload_n 0, 1) := by decide +kernel
theorem dX4_init_38 : decode cX4_init 38 = .ok (.iconst 5, 1) := by decide +kernel
theorem dX4_init_39 : decode cX4_init 39 = .ok (.newarray .int, 2) := by decide +kernel
theorem dX4_init_41 : decode cX4_init 41 = .ok (.putfield 25, 3) := by decide +kernel
theorem dX4_init_44 : decode cX4_init 44 = .ok (.aload_n 0, 1) := by decide +kernel
theorem dX4_init_45 : decode cX4_init 45 = .ok (.iconst 0, 1) := by decide +kernel
theorem dX4_init_46 : decode cX4_init 46 = .ok (.putfield 28, 3) := by decide +kernel
theorem dX4_init_49 : decode cX4_init 49 = .ok (.aload_n 0, 1) := by decide +kernel
theorem dX4_init_50 : decode cX4_init 50 = .ok (.bipush 30, 2) := by decide +kernel
theorem dX4_init_52 : decode cX4_init 52 = .ok (.newarray .int, 2) := by decide +kernel
theorem dX4_init_54 : decode cX4_init 54 = .ok (.putfield 31, 3) := by decide +kernel
theorem dX4_init_57 : decode cX4_init 57 = .ok (.aload_n 0, 1) := by decide +kernel
theorem dX4_init_58 : decode cX4_init 58 = .ok (.sipush 151, 3) := by decide +kernel
theorem dX4_init_61 : decode cX4_init 61 = .ok (.newarray .int, 2) := by decide +kernel
theorem dX4_init_63 : decode cX4_init 63 = .ok (.putfield 34, 3) := by decide +kernel
theorem dX4_init_66 : decode cX4_init 66 = .ok (.iconst 0, 1) := by decide +kernel
theorem dX4_init_67 : decode cX4_init 67 = .ok (.istore_n 1, 1) := by decide +kernel
theorem dX4_init_68 : decode cX4_init 68 = .ok (.iload_n 1, 1) := by decide +kernel
theorem dX4_init_69 : decode cX4_init 69 = .ok (.bipush 6, 2) := by decide +kernel
theorem dX4_init_71 : decode cX4_init 71 = .ok (.if_icmp .ge 16, 3) := by decide +kernel
theorem dX4_init_74 : decode cX4_init 74 = .ok (.aload_n 0, 1) := by decide +kernel
theorem dX4_init_75 : decode cX4_init 75 = .ok (.getfield 15, 3) := by decide +kernel
theorem dX4_init_78 : decode cX4_init 78 = .ok (.iload_n 1, 1) := by decide +kernel
theorem dX4_init_79 : decode cX4_init 79 = .ok (.iload_n 1, 1) := by decide +kernel
theorem dX4_init_80 : decode cX4_init 80 = .ok (.iastore, 1) := by decide +kernel
theorem dX4_init_81 : decode cX4_init 81 = .ok (.iinc 1 1, 3) := by decide +kernel
theorem dX4_init_84 : decode cX4_init 84 = .ok (.goto (-16), 3) := by decide +kernel
theorem dX4_init_87 : decode cX4_init 87 = .ok (.return_, 1) := by decide +kernel
set_option maxRecDepth 20000 in
theorem ggX4_take_X9_has : GoodIn wsX4_take wsX9_has := goodIn_r _ [6] (by decide +kernel) (by decide +kernel)
set_option maxRecDepth 20000 in
theorem gX4_take_X9_has_n37 : GoodIn wsX4_take (wsX9_has) := ggX4_take_X9_has
set_option maxRecDepth 20000 in
theorem ggX4_take_X4_add : GoodIn wsX4_take wsX4_add := goodIn_r _ [11, 12, 13, 2, 14, 15, 16, 17, 18, 19, 5, 20, 21, 22, 23, 10, 24, 1, 25, 26, 27, 36, 37, 28, 29, 30, 31, 32, 33, 34, 35] (by decide +kernel) (by decide +kernel)
set_option maxRecDepth 20000 in
theorem gX4_take_X4_add : GoodIn wsX4_take (wsV RX4 41 RX4 yX4_add wsX4_add) := goodIn_app (goodIn_of _ (by decide +kernel)) ggX4_take_X4_add
theorem dX4_take_0 : decode cX4_take 0 = .ok (.aload_n 0, 1) := by decide +kernel
theorem dX4_take_1 : decode cX4_take 1 = .ok (.bipush 6, 2) := by decide +kernel
theorem dX4_take_3 : decode cX4_take 3 = .ok (.putfield 11, 3) := by decide +kernel
theorem dX4_take_6 : decode cX4_take 6 = .ok (.aload_n 0, 1) := by decide +kernel
theorem dX4_take_7 : decode cX4_take 7 = .ok (.iconst 0, 1) := by decide +kernel
theorem dX4_take_8 : decode cX4_take 8 = .ok (.putfield 28, 3) := by decide +kernel
theorem dX4_take_11 : decode cX4_take 11 = .ok (.iconst 0, 1) := by decide +kernel
theorem dX4_take_12 : decode cX4_take 12 = .ok (.istore_n 3, 1) := by decide +kernel
theorem dX4_take_13 : decode cX4_take 13 = .ok (.iload_n 3, 1) := by decide +kernel
theorem dX4_take_14 : decode cX4_take 14 = .ok (.iconst 5, 1) := by decide +kernel
theorem dX4_take_15 : decode cX4_take 15 = .ok (.if_icmp .ge 49, 3) := by decide +kernel
theorem dX4_take_18 : decode cX4_take 18 = .ok (.iload_n 3, 1) := by decide +kernel
theorem dX4_take_19 : decode cX4_take 19 = .ok (.aload_n 1, 1) := by decide +kernel
theorem dX4_take_20 : decode cX4_take 20 = .ok (.arraylength, 1) := by decide +kernel
theorem dX4_take_21 : decode cX4_take 21 = .ok (.if_icmp .ge 43, 3) := by decide +kernel
theorem dX4_take_24 : decode cX4_take 24 = .ok (.aload_n 1, 1) := by decide +kernel
theorem dX4_take_25 : decode cX4_take 25 = .ok (.iload_n 3, 1) := by decide +kernel
theorem dX4_take_26 : decode cX4_take 26 = .ok (.aaload, 1) := by decide +kernel
theorem dX4_take_27 : decode cX4_take 27 = .ok (.astore 4, 2) := by decide +kernel
theorem dX4_take_29 : decode cX4_take 29 = .ok (.aload_n 0, 1) := by decide +kernel
theorem dX4_take_30 : decode cX4_take 30 = .ok (.getfield 25, 3) := by decide +kernel
theorem dX4_take_33 : decode cX4_take 33 = .ok (.iload_n 3, 1) := by decide +kernel
theorem dX4_take_34 : decode cX4_take 34 = .ok (.aload 4, 2) := by decide +kernel
theorem dX4_take_36 : decode cX4_take 36 = .ok (.ifnull 20, 3) := by decide +kernel
theorem dX4_take_39 : decode cX4_take 39 = .ok (.iload_n 2, 1) := by decide +kernel
theorem dX4_take_40 : decode cX4_take 40 = .ok (.iload_n 3, 1) := by decide +kernel
theorem dX4_take_41 : decode cX4_take 41 = .ok (.invokestatic 37, 3) := by decide +kernel
theorem dX4_take_44 : decode cX4_take 44 = .ok (.ifCond .eq 12, 3) := by decide +kernel
theorem dX4_take_47 : decode cX4_take 47 = .ok (.aload_n 0, 1) := by decide +kernel
theorem dX4_take_48 : decode cX4_take 48 = .ok (.aload 4, 2) := by decide +kernel
theorem dX4_take_50 : decode cX4_take 50 = .ok (.invokevirtual 41, 3) := by decide +kernel
theorem dX4_take_53 : decode cX4_take 53 = .ok (.goto 4, 3) := by decide +kernel
theorem dX4_take_56 : decode cX4_take 56 = .ok (.iconst 4, 1) := by decide +kernel
theorem dX4_take_57 : decode cX4_take 57 = .ok (.iastore, 1) := by decide +kernel
theorem dX4_take_58 : decode cX4_take 58 = .ok (.iinc 3 1, 3) := by decide +kernel
theorem dX4_take_61 : decode cX4_take 61 = .ok (.goto (-48), 3) := by decide +kernel
theorem dX4_take_64 : decode cX4_take 64 = .ok (.return_, 1) := by decide +kernel
set_option maxRecDepth 20000 in
theorem ggX4_whole_X9_at : GoodIn wsX4_whole wsX9_at := goodIn_r _ [4] (by decide +kernel) (by decide +kernel)
set_option maxRecDepth 20000 in
theorem gX4_whole_X9_at_n45 : GoodIn wsX4_whole (wsX9_at) := ggX4_whole_X9_at
theorem dX4_whole_0 : decode cX4_whole 0 = .ok (.aload_n 0, 1) := by decide +kernel
theorem dX4_whole_1 : decode cX4_whole 1 = .ok (.getfield 25, 3) := by decide +kernel
theorem dX4_whole_4 : decode cX4_whole 4 = .ok (.iload_n 1, 1) := by decide +kernel
theorem dX4_whole_5 : decode cX4_whole 5 = .ok (.invokestatic 45, 3) := by decide +kernel
theorem dX4_whole_8 : decode cX4_whole 8 = .ok (.ireturn, 1) := by decide +kernel
set_option maxRecDepth 20000 in
theorem ggX4_add_X9_at : GoodIn wsX4_add wsX9_at := goodIn_r _ [11] (by decide +kernel) (by decide +kernel)
set_option maxRecDepth 20000 in
theorem gX4_add_X9_at_n45 : GoodIn wsX4_add (wsX9_at) := ggX4_add_X9_at
set_option maxRecDepth 20000 in
theorem ggX4_add_X4_find : GoodIn wsX4_add wsX4_find := goodIn_r _ [16, 17, 18, 19, 20, 23, 24, 25, 26, 27, 28, 29, 30] (by decide +kernel) (by decide +kernel)
set_option maxRecDepth 20000 in
theorem gX4_add_X4_find : GoodIn wsX4_add (wsV RX4 61 RX4 yX4_find wsX4_find) := goodIn_app (goodIn_of _ (by decide +kernel)) ggX4_add_X4_find
theorem dX4_add_0 : decode cX4_add 0 = .ok (.iconst 0, 1) := by decide +kernel
theorem dX4_add_1 : decode cX4_add 1 = .ok (.istore_n 2, 1) := by decide +kernel
theorem dX4_add_2 : decode cX4_add 2 = .ok (.iconst 0, 1) := by decide +kernel
theorem dX4_add_3 : decode cX4_add 3 = .ok (.istore_n 3, 1) := by decide +kernel
theorem dX4_add_4 : decode cX4_add 4 = .ok (.iload_n 3, 1) := by decide +kernel
theorem dX4_add_5 : decode cX4_add 5 = .ok (.aload_n 1, 1) := by decide +kernel
theorem dX4_add_6 : decode cX4_add 6 = .ok (.getfield 49, 3) := by decide +kernel
theorem dX4_add_9 : decode cX4_add 9 = .ok (.if_icmp .ge 132, 3) := by decide +kernel
theorem dX4_add_12 : decode cX4_add 12 = .ok (.aload_n 1, 1) := by decide +kernel
theorem dX4_add_13 : decode cX4_add 13 = .ok (.getfield 52, 3) := by decide +kernel
theorem dX4_add_16 : decode cX4_add 16 = .ok (.iload_n 3, 1) := by decide +kernel
theorem dX4_add_17 : decode cX4_add 17 = .ok (.iaload, 1) := by decide +kernel
theorem dX4_add_18 : decode cX4_add 18 = .ok (.istore 4, 2) := by decide +kernel
theorem dX4_add_20 : decode cX4_add 20 = .ok (.iload 4, 2) := by decide +kernel
theorem dX4_add_22 : decode cX4_add 22 = .ok (.istore 5, 2) := by decide +kernel
theorem dX4_add_24 : decode cX4_add 24 = .ok (.iload 4, 2) := by decide +kernel
theorem dX4_add_26 : decode cX4_add 26 = .ok (.iconst 5, 1) := by decide +kernel
theorem dX4_add_27 : decode cX4_add 27 = .ok (.if_icmp .gt 19, 3) := by decide +kernel
theorem dX4_add_30 : decode cX4_add 30 = .ok (.aload_n 0, 1) := by decide +kernel
theorem dX4_add_31 : decode cX4_add 31 = .ok (.dup, 1) := by decide +kernel
theorem dX4_add_32 : decode cX4_add 32 = .ok (.getfield 28, 3) := by decide +kernel
theorem dX4_add_35 : decode cX4_add 35 = .ok (.iconst 1, 1) := by decide +kernel
theorem dX4_add_36 : decode cX4_add 36 = .ok (.iload 4, 2) := by decide +kernel
theorem dX4_add_38 : decode cX4_add 38 = .ok (.ishl, 1) := by decide +kernel
theorem dX4_add_39 : decode cX4_add 39 = .ok (.ior, 1) := by decide +kernel
theorem dX4_add_40 : decode cX4_add 40 = .ok (.putfield 28, 3) := by decide +kernel
theorem dX4_add_43 : decode cX4_add 43 = .ok (.goto 72, 3) := by decide +kernel
theorem dX4_add_46 : decode cX4_add 46 = .ok (.iload 4, 2) := by decide +kernel
theorem dX4_add_48 : decode cX4_add 48 = .ok (.bipush 6, 2) := by decide +kernel
theorem dX4_add_50 : decode cX4_add 50 = .ok (.if_icmp .ne 31, 3) := by decide +kernel
theorem dX4_add_53 : decode cX4_add 53 = .ok (.iconst 0, 1) := by decide +kernel
theorem dX4_add_54 : decode cX4_add 54 = .ok (.iload_n 2, 1) := by decide +kernel
theorem dX4_add_55 : decode cX4_add 55 = .ok (.iconst 1, 1) := by decide +kernel
theorem dX4_add_56 : decode cX4_add 56 = .ok (.isub, 1) := by decide +kernel
theorem dX4_add_57 : decode cX4_add 57 = .ok (.invokestatic 55, 3) := by decide +kernel
theorem dX4_add_60 : decode cX4_add 60 = .ok (.istore_n 2, 1) := by decide +kernel
theorem dX4_add_61 : decode cX4_add 61 = .ok (.aload_n 0, 1) := by decide +kernel
theorem dX4_add_62 : decode cX4_add 62 = .ok (.bipush 6, 2) := by decide +kernel
theorem dX4_add_64 : decode cX4_add 64 = .ok (.aload_n 0, 1) := by decide +kernel
theorem dX4_add_65 : decode cX4_add 65 = .ok (.getfield 31, 3) := by decide +kernel
theorem dX4_add_68 : decode cX4_add 68 = .ok (.iload_n 2, 1) := by decide +kernel
theorem dX4_add_69 : decode cX4_add 69 = .ok (.invokestatic 45, 3) := by decide +kernel
theorem dX4_add_72 : decode cX4_add 72 = .ok (.iconst 5, 1) := by decide +kernel
theorem dX4_add_73 : decode cX4_add 73 = .ok (.invokevirtual 61, 3) := by decide +kernel
theorem dX4_add_76 : decode cX4_add 76 = .ok (.istore 5, 2) := by decide +kernel
theorem dX4_add_78 : decode cX4_add 78 = .ok (.goto 37, 3) := by decide +kernel
theorem dX4_add_81 : decode cX4_add 81 = .ok (.iconst 0, 1) := by decide +kernel
theorem dX4_add_82 : decode cX4_add 82 = .ok (.iload_n 2, 1) := by decide +kernel
theorem dX4_add_83 : decode cX4_add 83 = .ok (.iconst 2, 1) := by decide +kernel
theorem dX4_add_84 : decode cX4_add 84 = .ok (.isub, 1) := by decide +kernel
theorem dX4_add_85 : decode cX4_add 85 = .ok (.invokestatic 55, 3) := by decide +kernel
theorem dX4_add_88 : decode cX4_add 88 = .ok (.istore_n 2, 1) := by decide +kernel
theorem dX4_add_89 : decode cX4_add 89 = .ok (.aload_n 0, 1) := by decide +kernel
theorem dX4_add_90 : decode cX4_add 90 = .ok (.iload 4, 2) := by decide +kernel
theorem dX4_add_92 : decode cX4_add 92 = .ok (.aload_n 0, 1) := by decide +kernel
theorem dX4_add_93 : decode cX4_add 93 = .ok (.getfield 31, 3) := by decide +kernel
theorem dX4_add_96 : decode cX4_add 96 = .ok (.iload_n 2, 1) := by decide +kernel
theorem dX4_add_97 : decode cX4_add 97 = .ok (.invokestatic 45, 3) := by decide +kernel
theorem dX4_add_100 : decode cX4_add 100 = .ok (.aload_n 0, 1) := by decide +kernel
theorem dX4_add_101 : decode cX4_add 101 = .ok (.getfield 31, 3) := by decide +kernel
theorem dX4_add_104 : decode cX4_add 104 = .ok (.iload_n 2, 1) := by decide +kernel
theorem dX4_add_105 : decode cX4_add 105 = .ok (.iconst 1, 1) := by decide +kernel
theorem dX4_add_106 : decode cX4_add 106 = .ok (.iadd, 1) := by decide +kernel
theorem dX4_add_107 : decode cX4_add 107 = .ok (.invokestatic 45, 3) := by decide +kernel
theorem dX4_add_110 : decode cX4_add 110 = .ok (.invokevirtual 61, 3) := by decide +kernel
theorem dX4_add_113 : decode cX4_add 113 = .ok (.istore 5, 2) := by decide +kernel
theorem dX4_add_115 : decode cX4_add 115 = .ok (.iload_n 2, 1) := by decide +kernel
theorem dX4_add_116 : decode cX4_add 116 = .ok (.aload_n 0, 1) := by decide +kernel
theorem dX4_add_117 : decode cX4_add 117 = .ok (.getfield 31, 3) := by decide +kernel
theorem dX4_add_120 : decode cX4_add 120 = .ok (.arraylength, 1) := by decide +kernel
theorem dX4_add_121 : decode cX4_add 121 = .ok (.if_icmp .ge 14, 3) := by decide +kernel
theorem dX4_add_124 : decode cX4_add 124 = .ok (.aload_n 0, 1) := by decide +kernel
theorem dX4_add_125 : decode cX4_add 125 = .ok (.getfield 31, 3) := by decide +kernel
theorem dX4_add_128 : decode cX4_add 128 = .ok (.iload_n 2, 1) := by decide +kernel
theorem dX4_add_129 : decode cX4_add 129 = .ok (.iload 5, 2) := by decide +kernel
theorem dX4_add_131 : decode cX4_add 131 = .ok (.iastore, 1) := by decide +kernel
theorem dX4_add_132 : decode cX4_add 132 = .ok (.iinc 2 1, 3) := by decide +kernel
theorem dX4_add_135 : decode cX4_add 135 = .ok (.iinc 3 1, 3) := by decide +kernel
theorem dX4_add_138 : decode cX4_add 138 = .ok (.goto (-134), 3) := by decide +kernel
theorem dX4_add_141 : decode cX4_add 141 = .ok (.aload_n 0, 1) := by decide +kernel
theorem dX4_add_142 : decode cX4_add 142 = .ok (.getfield 31, 3) := by decide +kernel
theorem dX4_add_145 : decode cX4_add 145 = .ok (.iconst 0, 1) := by decide +kernel
theorem dX4_add_146 : decode cX4_add 146 = .ok (.iaload, 1) := by decide +kernel
theorem dX4_add_147 : decode cX4_add 147 = .ok (.ireturn, 1) := by decide +kernel
theorem dX4_find_0 : decode cX4_find 0 = .ok (.bipush 6, 2) := by decide +kernel
theorem dX4_find_2 : decode cX4_find 2 = .ok (.istore 4, 2) := by decide +kernel
theorem dX4_find_4 : decode cX4_find 4 = .ok (.iload 4, 2) := by decide +kernel
theorem dX4_find_6 : decode cX4_find 6 = .ok (.aload_n 0, 1) := by decide +kernel
theorem dX4_find_7 : decode cX4_find 7 = .ok (.getfield 11, 3) := by decide +kernel
theorem dX4_find_10 : decode cX4_find 10 = .ok (.if_icmp .ge 45, 3) := by decide +kernel
theorem dX4_find_13 : decode cX4_find 13 = .ok (.aload_n 0, 1) := by decide +kernel
theorem dX4_find_14 : decode cX4_find 14 = .ok (.getfield 19, 3) := by decide +kernel
theorem dX4_find_17 : decode cX4_find 17 = .ok (.iload 4, 2) := by decide +kernel
theorem dX4_find_19 : decode cX4_find 19 = .ok (.iaload, 1) := by decide +kernel
theorem dX4_find_20 : decode cX4_find 20 = .ok (.iload_n 2, 1) := by decide +kernel
theorem dX4_find_21 : decode cX4_find 21 = .ok (.if_icmp .ne 28, 3) := by decide +kernel
theorem dX4_find_24 : decode cX4_find 24 = .ok (.aload_n 0, 1) := by decide +kernel
theorem dX4_find_25 : decode cX4_find 25 = .ok (.getfield 22, 3) := by decide +kernel
theorem dX4_find_28 : decode cX4_find 28 = .ok (.iload 4, 2) := by decide +kernel
theorem dX4_find_30 : decode cX4_find 30 = .ok (.iaload, 1) := by decide +kernel
theorem dX4_find_31 : decode cX4_find 31 = .ok (.iload_n 3, 1) := by decide +kernel
theorem dX4_find_32 : decode cX4_find 32 = .ok (.if_icmp .ne 17, 3) := by decide +kernel
theorem dX4_find_35 : decode cX4_find 35 = .ok (.aload_n 0, 1) := by decide +kernel
theorem dX4_find_36 : decode cX4_find 36 = .ok (.getfield 15, 3) := by decide +kernel
theorem dX4_find_39 : decode cX4_find 39 = .ok (.iload 4, 2) := by decide +kernel
theorem dX4_find_41 : decode cX4_find 41 = .ok (.iaload, 1) := by decide +kernel
theorem dX4_find_42 : decode cX4_find 42 = .ok (.iload_n 1, 1) := by decide +kernel
theorem dX4_find_43 : decode cX4_find 43 = .ok (.if_icmp .ne 6, 3) := by decide +kernel
theorem dX4_find_46 : decode cX4_find 46 = .ok (.iload 4, 2) := by decide +kernel
theorem dX4_find_48 : decode cX4_find 48 = .ok (.ireturn, 1) := by decide +kernel
theorem dX4_find_49 : decode cX4_find 49 = .ok (.iinc 4 1, 3) := by decide +kernel
theorem dX4_find_52 : decode cX4_find 52 = .ok (.goto (-48), 3) := by decide +kernel
theorem dX4_find_55 : decode cX4_find 55 = .ok (.aload_n 0, 1) := by decide +kernel
theorem dX4_find_56 : decode cX4_find 56 = .ok (.getfield 11, 3) := by decide +kernel
theorem dX4_find_59 : decode cX4_find 59 = .ok (.sipush 151, 3) := by decide +kernel
theorem dX4_find_62 : decode cX4_find 62 = .ok (.if_icmp .lt 5, 3) := by decide +kernel
theorem dX4_find_65 : decode cX4_find 65 = .ok (.iconst 5, 1) := by decide +kernel
theorem dX4_find_66 : decode cX4_find 66 = .ok (.ireturn, 1) := by decide +kernel
theorem dX4_find_67 : decode cX4_find 67 = .ok (.aload_n 0, 1) := by decide +kernel
theorem dX4_find_68 : decode cX4_find 68 = .ok (.getfield 15, 3) := by decide +kernel
theorem dX4_find_71 : decode cX4_find 71 = .ok (.aload_n 0, 1) := by decide +kernel
theorem dX4_find_72 : decode cX4_find 72 = .ok (.getfield 11, 3) := by decide +kernel
theorem dX4_find_75 : decode cX4_find 75 = .ok (.iload_n 1, 1) := by decide +kernel
theorem dX4_find_76 : decode cX4_find 76 = .ok (.iastore, 1) := by decide +kernel
theorem dX4_find_77 : decode cX4_find 77 = .ok (.aload_n 0, 1) := by decide +kernel
theorem dX4_find_78 : decode cX4_find 78 = .ok (.getfield 19, 3) := by decide +kernel
theorem dX4_find_81 : decode cX4_find 81 = .ok (.aload_n 0, 1) := by decide +kernel
theorem dX4_find_82 : decode cX4_find 82 = .ok (.getfield 11, 3) := by decide +kernel
theorem dX4_find_85 : decode cX4_find 85 = .ok (.iload_n 2, 1) := by decide +kernel
theorem dX4_find_86 : decode cX4_find 86 = .ok (.iastore, 1) := by decide +kernel
theorem dX4_find_87 : decode cX4_find 87 = .ok (.aload_n 0, 1) := by decide +kernel
theorem dX4_find_88 : decode cX4_find 88 = .ok (.getfield 22, 3) := by decide +kernel
theorem dX4_find_91 : decode cX4_find 91 = .ok (.aload_n 0, 1) := by decide +kernel
theorem dX4_find_92 : decode cX4_find 92 = .ok (.getfield 11, 3) := by decide +kernel
theorem dX4_find_95 : decode cX4_find 95 = .ok (.iload_n 3, 1) := by decide +kernel
theorem dX4_find_96 : decode cX4_find 96 = .ok (.iastore, 1) := by decide +kernel
theorem dX4_find_97 : decode cX4_find 97 = .ok (.aload_n 0, 1) := by decide +kernel
theorem dX4_find_98 : decode cX4_find 98 = .ok (.dup, 1) := by decide +kernel
theorem dX4_find_99 : decode cX4_find 99 = .ok (.getfield 11, 3) := by decide +kernel
theorem dX4_find_102 : decode cX4_find 102 = .ok (.iconst 1, 1) := by decide +kernel
theorem dX4_find_103 : decode cX4_find 103 = .ok (.iadd, 1) := by decide +kernel
theorem dX4_find_104 : decode cX4_find 104 = .ok (.putfield 11, 3) := by decide +kernel
theorem dX4_find_107 : decode cX4_find 107 = .ok (.aload_n 0, 1) := by decide +kernel
theorem dX4_find_108 : decode cX4_find 108 = .ok (.getfield 11, 3) := by decide +kernel
theorem dX4_find_111 : decode cX4_find 111 = .ok (.iconst 1, 1) := by decide +kernel
theorem dX4_find_112 : decode cX4_find 112 = .ok (.isub, 1) := by decide +kernel
theorem dX4_find_113 : decode cX4_find 113 = .ok (.ireturn, 1) := by decide +kernel
theorem dX4_isIf_0 : decode cX4_isIf 0 = .ok (.iload_n 1, 1) := by decide +kernel
theorem dX4_isIf_1 : decode cX4_isIf 1 = .ok (.ifCond .lt 37, 3) := by decide +kernel
theorem dX4_isIf_4 : decode cX4_isIf 4 = .ok (.iload_n 1, 1) := by decide +kernel
theorem dX4_isIf_5 : decode cX4_isIf 5 = .ok (.aload_n 0, 1) := by decide +kernel
theorem dX4_isIf_6 : decode cX4_isIf 6 = .ok (.getfield 11, 3) := by decide +kernel
theorem dX4_isIf_9 : decode cX4_isIf 9 = .ok (.if_icmp .ge 29, 3) := by decide +kernel
theorem dX4_isIf_12 : decode cX4_isIf 12 = .ok (.aload_n 0, 1) := by decide +kernel
theorem dX4_isIf_13 : decode cX4_isIf 13 = .ok (.getfield 15, 3) := by decide +kernel
theorem dX4_isIf_16 : decode cX4_isIf 16 = .ok (.iload_n 1, 1) := by decide +kernel
theorem dX4_isIf_17 : decode cX4_isIf 17 = .ok (.iaload, 1) := by decide +kernel
theorem dX4_isIf_18 : decode cX4_isIf 18 = .ok (.bipush 9, 2) := by decide +kernel
theorem dX4_isIf_20 : decode cX4_isIf 20 = .ok (.if_icmp .eq 14, 3) := by decide +kernel
theorem dX4_isIf_23 : decode cX4_isIf 23 = .ok (.aload_n 0, 1) := by decide +kernel
theorem dX4_isIf_24 : decode cX4_isIf 24 = .ok (.getfield 15, 3) := by decide +kernel
theorem dX4_isIf_27 : decode cX4_isIf 27 = .ok (.iload_n 1, 1) := by decide +kernel
theorem dX4_isIf_28 : decode cX4_isIf 28 = .ok (.iaload, 1) := by decide +kernel
theorem dX4_isIf_29 : decode cX4_isIf 29 = .ok (.bipush 6, 2) := by decide +kernel
theorem dX4_isIf_31 : decode cX4_isIf 31 = .ok (.if_icmp .ne 7, 3) := by decide +kernel
theorem dX4_isIf_34 : decode cX4_isIf 34 = .ok (.iconst 1, 1) := by decide +kernel
theorem dX4_isIf_35 : decode cX4_isIf 35 = .ok (.goto 4, 3) := by decide +kernel
theorem dX4_isIf_38 : decode cX4_isIf 38 = .ok (.iconst 0, 1) := by decide +kernel
theorem dX4_isIf_39 : decode cX4_isIf 39 = .ok (.ireturn, 1) := by decide +kernel
set_option maxRecDepth 20000 in
theorem ggX4_different_J6_bitCount_0f7a4 : GoodIn wsX4_different wsJ6_bitCount_0f7a4 := goodIn_r _ [6, 7, 8, 9] (by decide +kernel) (by decide +kernel)
set_option maxRecDepth 20000 in
theorem gX4_different_J6_bitCount_0f7a4 : GoodIn wsX4_different (va_wsS RX4 65 yJ6_bitCount_0f7a4 wsJ6_bitCount_0f7a4) := goodIn_app (goodIn_of _ (by decide +kernel)) ggX4_different_J6_bitCount_0f7a4
theorem dX4_different_0 : decode cX4_different 0 = .ok (.aload_n 0, 1) := by decide +kernel
theorem dX4_different_1 : decode cX4_different 1 = .ok (.getfield 11, 3) := by decide +kernel
theorem dX4_different_4 : decode cX4_different 4 = .ok (.bipush 6, 2) := by decide +kernel
theorem dX4_different_6 : decode cX4_different 6 = .ok (.isub, 1) := by decide +kernel
theorem dX4_different_7 : decode cX4_different 7 = .ok (.aload_n 0, 1) := by decide +kernel
theorem dX4_different_8 : decode cX4_different 8 = .ok (.getfield 28, 3) := by decide +kernel
theorem dX4_different_11 : decode cX4_different 11 = .ok (.invokestatic 65, 3) := by decide +kernel
theorem dX4_different_14 : decode cX4_different 14 = .ok (.iadd, 1) := by decide +kernel
theorem dX4_different_15 : decode cX4_different 15 = .ok (.ireturn, 1) := by decide +kernel
theorem dX4_usedFacts_0 : decode cX4_usedFacts 0 = .ok (.aload_n 0, 1) := by decide +kernel
theorem dX4_usedFacts_1 : decode cX4_usedFacts 1 = .ok (.getfield 28, 3) := by decide +kernel
theorem dX4_usedFacts_4 : decode cX4_usedFacts 4 = .ok (.bipush 15, 2) := by decide +kernel
theorem dX4_usedFacts_6 : decode cX4_usedFacts 6 = .ok (.iand, 1) := by decide +kernel
theorem dX4_usedFacts_7 : decode cX4_usedFacts 7 = .ok (.ireturn, 1) := by decide +kernel
set_option maxRecDepth 20000 in
theorem ggX4_depth_X9_at : GoodIn wsX4_depth wsX9_at := goodIn_r _ [11] (by decide +kernel) (by decide +kernel)
set_option maxRecDepth 20000 in
theorem gX4_depth_X9_at_n45 : GoodIn wsX4_depth (wsX9_at) := ggX4_depth_X9_at
set_option maxRecDepth 20000 in
theorem ggX4_depth_X4_whole : GoodIn wsX4_depth wsX4_whole := goodIn_r _ [16, 17, 9, 10, 11, 18, 19, 20, 21, 22, 23, 24, 25] (by decide +kernel) (by decide +kernel)
set_option maxRecDepth 20000 in
theorem gX4_depth_X4_whole : GoodIn wsX4_depth (wsV RX4 71 RX4 yX4_whole wsX4_whole) := goodIn_app (goodIn_of _ (by decide +kernel)) ggX4_depth_X4_whole
theorem dX4_depth_0 : decode cX4_depth 0 = .ok (.iconst 0, 1) := by decide +kernel
theorem dX4_depth_1 : decode cX4_depth 1 = .ok (.istore_n 2, 1) := by decide +kernel
theorem dX4_depth_2 : decode cX4_depth 2 = .ok (.iload_n 2, 1) := by decide +kernel
theorem dX4_depth_3 : decode cX4_depth 3 = .ok (.aload_n 0, 1) := by decide +kernel
theorem dX4_depth_4 : decode cX4_depth 4 = .ok (.getfield 11, 3) := by decide +kernel
theorem dX4_depth_7 : decode cX4_depth 7 = .ok (.if_icmp .ge 58, 3) := by decide +kernel
theorem dX4_depth_10 : decode cX4_depth 10 = .ok (.aload_n 0, 1) := by decide +kernel
theorem dX4_depth_11 : decode cX4_depth 11 = .ok (.getfield 34, 3) := by decide +kernel
theorem dX4_depth_14 : decode cX4_depth 14 = .ok (.aload_n 0, 1) := by decide +kernel
theorem dX4_depth_15 : decode cX4_depth 15 = .ok (.getfield 19, 3) := by decide +kernel
theorem dX4_depth_18 : decode cX4_depth 18 = .ok (.iload_n 2, 1) := by decide +kernel
theorem dX4_depth_19 : decode cX4_depth 19 = .ok (.iaload, 1) := by decide +kernel
theorem dX4_depth_20 : decode cX4_depth 20 = .ok (.invokestatic 45, 3) := by decide +kernel
theorem dX4_depth_23 : decode cX4_depth 23 = .ok (.aload_n 0, 1) := by decide +kernel
theorem dX4_depth_24 : decode cX4_depth 24 = .ok (.getfield 34, 3) := by decide +kernel
theorem dX4_depth_27 : decode cX4_depth 27 = .ok (.aload_n 0, 1) := by decide +kernel
theorem dX4_depth_28 : decode cX4_depth 28 = .ok (.getfield 22, 3) := by decide +kernel
theorem dX4_depth_31 : decode cX4_depth 31 = .ok (.iload_n 2, 1) := by decide +kernel
theorem dX4_depth_32 : decode cX4_depth 32 = .ok (.iaload, 1) := by decide +kernel
theorem dX4_depth_33 : decode cX4_depth 33 = .ok (.invokestatic 45, 3) := by decide +kernel
theorem dX4_depth_36 : decode cX4_depth 36 = .ok (.invokestatic 55, 3) := by decide +kernel
theorem dX4_depth_39 : decode cX4_depth 39 = .ok (.istore_n 3, 1) := by decide +kernel
theorem dX4_depth_40 : decode cX4_depth 40 = .ok (.aload_n 0, 1) := by decide +kernel
theorem dX4_depth_41 : decode cX4_depth 41 = .ok (.getfield 34, 3) := by decide +kernel
theorem dX4_depth_44 : decode cX4_depth 44 = .ok (.iload_n 2, 1) := by decide +kernel
theorem dX4_depth_45 : decode cX4_depth 45 = .ok (.iload_n 2, 1) := by decide +kernel
theorem dX4_depth_46 : decode cX4_depth 46 = .ok (.bipush 6, 2) := by decide +kernel
theorem dX4_depth_48 : decode cX4_depth 48 = .ok (.if_icmp .ge 7, 3) := by decide +kernel
theorem dX4_depth_51 : decode cX4_depth 51 = .ok (.iconst 1, 1) := by decide +kernel
theorem dX4_depth_52 : decode cX4_depth 52 = .ok (.goto 6, 3) := by decide +kernel
theorem dX4_depth_55 : decode cX4_depth 55 = .ok (.iconst 1, 1) := by decide +kernel
theorem dX4_depth_56 : decode cX4_depth 56 = .ok (.iload_n 3, 1) := by decide +kernel
theorem dX4_depth_57 : decode cX4_depth 57 = .ok (.iadd, 1) := by decide +kernel
theorem dX4_depth_58 : decode cX4_depth 58 = .ok (.iastore, 1) := by decide +kernel
theorem dX4_depth_59 : decode cX4_depth 59 = .ok (.iinc 2 1, 3) := by decide +kernel
theorem dX4_depth_62 : decode cX4_depth 62 = .ok (.goto (-60), 3) := by decide +kernel
theorem dX4_depth_65 : decode cX4_depth 65 = .ok (.aload_n 0, 1) := by decide +kernel
theorem dX4_depth_66 : decode cX4_depth 66 = .ok (.getfield 34, 3) := by decide +kernel
theorem dX4_depth_69 : decode cX4_depth 69 = .ok (.aload_n 0, 1) := by decide +kernel
theorem dX4_depth_70 : decode cX4_depth 70 = .ok (.iload_n 1, 1) := by decide +kernel
theorem dX4_depth_71 : decode cX4_depth 71 = .ok (.invokevirtual 71, 3) := by decide +kernel
theorem dX4_depth_74 : decode cX4_depth 74 = .ok (.invokestatic 45, 3) := by decide +kernel
theorem dX4_depth_77 : decode cX4_depth 77 = .ok (.ireturn, 1) := by decide +kernel
set_option maxRecDepth 20000 in
theorem ggX5_init_X6_init : GoodIn wsX5_init wsX6_init := goodIn_r _ [21, 22, 2, 3, 23, 24, 25, 26, 27, 28, 29, 30, 31, 32, 33, 34, 35, 36, 37, 38, 39, 40, 41, 42, 43, 44, 90, 91, 92, 93, 94, 95, 96, 97, 71, 72, 73, 74, 75] (by decide +kernel) (by decide +kernel)
set_option maxRecDepth 20000 in
theorem gX5_init_X6_init : GoodIn wsX5_init (wsX6_init) := ggX5_init_X6_init
set_option maxRecDepth 20000 in
theorem ggX5_init_X1_init : GoodIn wsX5_init wsX1_init := goodIn_r _ [47, 48, 2, 3, 49, 50, 51, 27, 52, 53, 54, 55, 56, 57, 58, 59, 60, 61, 81, 82, 83, 84, 98, 99, 100] (by decide +kernel) (by decide +kernel)
set_option maxRecDepth 20000 in
theorem gX5_init_X1_init : GoodIn wsX5_init (wsX1_init) := ggX5_init_X1_init
set_option maxRecDepth 20000 in
theorem ggX5_init_X2_init : GoodIn wsX5_init wsX2_init := goodIn_r _ [63, 64, 2, 3, 65, 54, 55, 66, 67, 68, 69, 70, 56, 57, 58, 59, 60, 61, 98, 99, 100, 85, 86, 87, 88, 89] (by decide +kernel) (by decide +kernel)
set_option maxRecDepth 20000 in
theorem gX5_init_X2_init_n41 : GoodIn wsX5_init (wsX2_init) := ggX5_init_X2_init
theorem dX5_init_0 : decode cX5_init 0 = .ok (.aload_n 0, 1) := by decide +kernel
theorem dX5_init_1 : decode cX5_init 1 = .ok (.invokespecial 5, 3) := by decide +kernel
theorem dX5_init_4 : decode cX5_init 4 = .ok (.aload_n 0, 1) := by decide +kernel
theorem dX5_init_5 : decode cX5_init 5 = .ok (.new 11, 3) := by decide +kernel
theorem dX5_init_8 : decode cX5_init 8 = .ok (.dup, 1) := by decide +kernel
theorem dX5_init_9 : decode cX5_init 9 = .ok (.invokespecial 13, 3) := by decide +kernel
theorem dX5_init_12 : decode cX5_init 12 = .ok (.putfield 14, 3) := by decide +kernel
theorem dX5_init_15 : decode cX5_init 15 = .ok (.aload_n 0, 1) := by decide +kernel
theorem dX5_init_16 : decode cX5_init 16 = .ok (.aload_n 0, 1) := by decide +kernel
theorem dX5_init_17 : decode cX5_init 17 = .ok (.getfield 14, 3) := by decide +kernel
theorem dX5_init_20 : decode cX5_init 20 = .ok (.getfield 20, 3) := by decide +kernel
theorem dX5_init_23 : decode cX5_init 23 = .ok (.putfield 24, 3) := by decide +kernel
theorem dX5_init_26 : decode cX5_init 26 = .ok (.aload_n 0, 1) := by decide +kernel
theorem dX5_init_27 : decode cX5_init 27 = .ok (.sipush 153, 3) := by decide +kernel
theorem dX5_init_30 : decode cX5_init 30 = .ok (.anewarray 25, 3) := by decide +kernel
theorem dX5_init_33 : decode cX5_init 33 = .ok (.putfield 27, 3) := by decide +kernel
theorem dX5_init_36 : decode cX5_init 36 = .ok (.aload_n 0, 1) := by decide +kernel
theorem dX5_init_37 : decode cX5_init 37 = .ok (.new 31, 3) := by decide +kernel
theorem dX5_init_40 : decode cX5_init 40 = .ok (.dup, 1) := by decide +kernel
theorem dX5_init_41 : decode cX5_init 41 = .ok (.invokespecial 33, 3) := by decide +kernel
theorem dX5_init_44 : decode cX5_init 44 = .ok (.putfield 34, 3) := by decide +kernel
theorem dX5_init_47 : decode cX5_init 47 = .ok (.aload_n 0, 1) := by decide +kernel
theorem dX5_init_48 : decode cX5_init 48 = .ok (.new 31, 3) := by decide +kernel
theorem dX5_init_51 : decode cX5_init 51 = .ok (.dup, 1) := by decide +kernel
theorem dX5_init_52 : decode cX5_init 52 = .ok (.invokespecial 33, 3) := by decide +kernel
theorem dX5_init_55 : decode cX5_init 55 = .ok (.putfield 38, 3) := by decide +kernel
theorem dX5_init_58 : decode cX5_init 58 = .ok (.iconst 0, 1) := by decide +kernel
theorem dX5_init_59 : decode cX5_init 59 = .ok (.istore_n 1, 1) := by decide +kernel
theorem dX5_init_60 : decode cX5_init 60 = .ok (.iload_n 1, 1) := by decide +kernel
theorem dX5_init_61 : decode cX5_init 61 = .ok (.sipush 153, 3) := by decide +kernel
theorem dX5_init_64 : decode cX5_init 64 = .ok (.if_icmp .ge 22, 3) := by decide +kernel
theorem dX5_init_67 : decode cX5_init 67 = .ok (.aload_n 0, 1) := by decide +kernel
theorem dX5_init_68 : decode cX5_init 68 = .ok (.getfield 27, 3) := by decide +kernel
theorem dX5_init_71 : decode cX5_init 71 = .ok (.iload_n 1, 1) := by decide +kernel
theorem dX5_init_72 : decode cX5_init 72 = .ok (.new 25, 3) := by decide +kernel
theorem dX5_init_75 : decode cX5_init 75 = .ok (.dup, 1) := by decide +kernel
theorem dX5_init_76 : decode cX5_init 76 = .ok (.invokespecial 41, 3) := by decide +kernel
theorem dX5_init_79 : decode cX5_init 79 = .ok (.aastore, 1) := by decide +kernel
theorem dX5_init_80 : decode cX5_init 80 = .ok (.iinc 1 1, 3) := by decide +kernel
theorem dX5_init_83 : decode cX5_init 83 = .ok (.goto (-23), 3) := by decide +kernel
theorem dX5_init_86 : decode cX5_init 86 = .ok (.return_, 1) := by decide +kernel
set_option maxRecDepth 20000 in
theorem ggX5_startAnew_X1_clear : GoodIn wsX5_startAnew wsX1_clear := goodIn_r _ [7, 8, 9, 15, 16, 17, 18] (by decide +kernel) (by decide +kernel)
set_option maxRecDepth 20000 in
theorem gX5_startAnew_X1_clear : GoodIn wsX5_startAnew (wsV RX5 42 RX1 yX1_clear wsX1_clear) := goodIn_app (goodIn_of _ (by decide +kernel)) ggX5_startAnew_X1_clear
theorem dX5_startAnew_0 : decode cX5_startAnew 0 = .ok (.aload_n 0, 1) := by decide +kernel
theorem dX5_startAnew_1 : decode cX5_startAnew 1 = .ok (.getfield 34, 3) := by decide +kernel
theorem dX5_startAnew_4 : decode cX5_startAnew 4 = .ok (.invokevirtual 42, 3) := by decide +kernel
theorem dX5_startAnew_7 : decode cX5_startAnew 7 = .ok (.aload_n 0, 1) := by decide +kernel
theorem dX5_startAnew_8 : decode cX5_startAnew 8 = .ok (.getfield 38, 3) := by decide +kernel
theorem dX5_startAnew_11 : decode cX5_startAnew 11 = .ok (.invokevirtual 42, 3) := by decide +kernel
theorem dX5_startAnew_14 : decode cX5_startAnew 14 = .ok (.return_, 1) := by decide +kernel
set_option maxRecDepth 20000 in
theorem ggX5_isFound_X3_fill : GoodIn wsX5_isFound wsX3_fill := goodIn_r _ [9, 10, 11, 12, 13, 143, 144, 145] (by decide +kernel) (by decide +kernel)
set_option maxRecDepth 20000 in
theorem gX5_isFound_X3_fill : GoodIn wsX5_isFound (wsV RX5 49 RX3 yX3_fill wsX3_fill) := goodIn_app (goodIn_of _ (by decide +kernel)) ggX5_isFound_X3_fill
set_option maxRecDepth 20000 in
theorem ggX5_isFound_X5_assume : GoodIn wsX5_isFound wsX5_assume := goodIn_r _ [18, 2, 3, 19, 20, 21, 22, 8, 23, 11, 10, 12, 13, 24, 25, 26, 27, 28, 29, 30, 31, 32, 138, 139, 140, 141, 142, 133, 134, 135, 136, 137, 143, 144, 145, 146, 147, 148, 149, 150] (by decide +kernel) (by decide +kernel)
set_option maxRecDepth 20000 in
theorem gX5_isFound_X5_assume : GoodIn wsX5_isFound (wsV RX5 59 RX5 yX5_assume wsX5_assume) := goodIn_app (goodIn_of _ (by decide +kernel)) ggX5_isFound_X5_assume
set_option maxRecDepth 20000 in
theorem ggX5_isFound_X9_has : GoodIn wsX5_isFound wsX9_has := goodIn_r _ [34] (by decide +kernel) (by decide +kernel)
set_option maxRecDepth 20000 in
theorem gX5_isFound_X9_has_n63 : GoodIn wsX5_isFound (wsX9_has) := ggX5_isFound_X9_has
set_option maxRecDepth 20000 in
theorem ggX5_isFound_X4_whole : GoodIn wsX5_isFound wsX4_whole := goodIn_r _ [39, 40, 30, 31, 32, 151, 152, 153, 154, 155, 156, 157, 158] (by decide +kernel) (by decide +kernel)
set_option maxRecDepth 20000 in
theorem gX5_isFound_X4_whole : GoodIn wsX5_isFound (wsV RX5 67 RX4 yX4_whole wsX4_whole) := goodIn_app (goodIn_of _ (by decide +kernel)) ggX5_isFound_X4_whole
set_option maxRecDepth 20000 in
theorem ggX5_isFound_X5_proves : GoodIn wsX5_isFound wsX5_proves := goodIn_r _ [43, 1, 44, 2, 45, 4, 46, 47, 48, 3, 49, 50, 51, 52, 53, 54, 17, 55, 56, 57, 58, 59, 38, 60, 61, 62, 30, 31, 32, 14, 15, 16, 18, 19, 20, 21, 22, 8, 23, 11, 10, 12, 13, 24, 25, 26, 27, 28, 29, 63, 64, 65, 66, 67, 68, 69, 70, 71, 72, 73, 74, 75, 76, 77, 78, 79, 80, 81, 82, 83, 84, 85, 86, 87, 88, 89, 90, 91, 92, 93, 94, 95, 96, 97, 98, 99, 100, 101, 102, 103, 104, 105, 106, 5, 6, 7, 9, 107, 108, 109, 110, 41, 42, 111, 112, 113, 114, 115, 116, 117, 118, 119, 120, 121, 122, 123, 124, 125, 126, 127, 128, 129, 130, 131, 132, 133, 134, 135, 136, 137, 138, 139, 140, 141, 142, 151, 152, 153, 154, 155, 156, 157, 158, 143, 144, 145, 146, 147, 148, 149, 150, 159, 160, 161, 162] (by decide +kernel) (by decide +kernel)
set_option maxRecDepth 20000 in
theorem gX5_isFound_X5_proves : GoodIn wsX5_isFound (va_wsS RX5 71 yX5_proves wsX5_proves) := goodIn_app (goodIn_of _ (by decide +kernel)) ggX5_isFound_X5_proves
theorem dX5_isFound_0 : decode cX5_isFound 0 = .ok (.aload_n 0, 1) := by decide +kernel
theorem dX5_isFound_1 : decode cX5_isFound 1 = .ok (.getfield 27, 3) := by decide +kernel
theorem dX5_isFound_4 : decode cX5_isFound 4 = .ok (.iconst 0, 1) := by decide +kernel
theorem dX5_isFound_5 : decode cX5_isFound 5 = .ok (.aaload, 1) := by decide +kernel
theorem dX5_isFound_6 : decode cX5_isFound 6 = .ok (.astore_n 3, 1) := by decide +kernel
theorem dX5_isFound_7 : decode cX5_isFound 7 = .ok (.aload_n 3, 1) := by decide +kernel
theorem dX5_isFound_8 : decode cX5_isFound 8 = .ok (.getfield 45, 3) := by decide +kernel
theorem dX5_isFound_11 : decode cX5_isFound 11 = .ok (.iconst 0, 1) := by decide +kernel
theorem dX5_isFound_12 : decode cX5_isFound 12 = .ok (.invokevirtual 49, 3) := by decide +kernel
theorem dX5_isFound_15 : decode cX5_isFound 15 = .ok (.aload_n 3, 1) := by decide +kernel
theorem dX5_isFound_16 : decode cX5_isFound 16 = .ok (.iconst (-1), 1) := by decide +kernel
theorem dX5_isFound_17 : decode cX5_isFound 17 = .ok (.putfield 55, 3) := by decide +kernel
theorem dX5_isFound_20 : decode cX5_isFound 20 = .ok (.aload_n 0, 1) := by decide +kernel
theorem dX5_isFound_21 : decode cX5_isFound 21 = .ok (.aload_n 3, 1) := by decide +kernel
theorem dX5_isFound_22 : decode cX5_isFound 22 = .ok (.iconst 4, 1) := by decide +kernel
theorem dX5_isFound_23 : decode cX5_isFound 23 = .ok (.invokevirtual 59, 3) := by decide +kernel
theorem dX5_isFound_26 : decode cX5_isFound 26 = .ok (.iconst 0, 1) := by decide +kernel
theorem dX5_isFound_27 : decode cX5_isFound 27 = .ok (.istore 4, 2) := by decide +kernel
theorem dX5_isFound_29 : decode cX5_isFound 29 = .ok (.iload 4, 2) := by decide +kernel
theorem dX5_isFound_31 : decode cX5_isFound 31 = .ok (.iconst 5, 1) := by decide +kernel
theorem dX5_isFound_32 : decode cX5_isFound 32 = .ok (.if_icmp .ge 32, 3) := by decide +kernel
theorem dX5_isFound_35 : decode cX5_isFound 35 = .ok (.iload_n 1, 1) := by decide +kernel
theorem dX5_isFound_36 : decode cX5_isFound 36 = .ok (.iload 4, 2) := by decide +kernel
theorem dX5_isFound_38 : decode cX5_isFound 38 = .ok (.invokestatic 63, 3) := by decide +kernel
theorem dX5_isFound_41 : decode cX5_isFound 41 = .ok (.ifCond .eq 17, 3) := by decide +kernel
theorem dX5_isFound_44 : decode cX5_isFound 44 = .ok (.aload_n 0, 1) := by decide +kernel
theorem dX5_isFound_45 : decode cX5_isFound 45 = .ok (.aload_n 3, 1) := by decide +kernel
theorem dX5_isFound_46 : decode cX5_isFound 46 = .ok (.aload_n 0, 1) := by decide +kernel
theorem dX5_isFound_47 : decode cX5_isFound 47 = .ok (.getfield 24, 3) := by decide +kernel
theorem dX5_isFound_50 : decode cX5_isFound 50 = .ok (.iload 4, 2) := by decide +kernel
theorem dX5_isFound_52 : decode cX5_isFound 52 = .ok (.invokevirtual 67, 3) := by decide +kernel
theorem dX5_isFound_55 : decode cX5_isFound 55 = .ok (.invokevirtual 59, 3) := by decide +kernel
theorem dX5_isFound_58 : decode cX5_isFound 58 = .ok (.iinc 4 1, 3) := by decide +kernel
theorem dX5_isFound_61 : decode cX5_isFound 61 = .ok (.goto (-32), 3) := by decide +kernel
theorem dX5_isFound_64 : decode cX5_isFound 64 = .ok (.aload_n 0, 1) := by decide +kernel
theorem dX5_isFound_65 : decode cX5_isFound 65 = .ok (.iconst 0, 1) := by decide +kernel
theorem dX5_isFound_66 : decode cX5_isFound 66 = .ok (.aload_n 0, 1) := by decide +kernel
theorem dX5_isFound_67 : decode cX5_isFound 67 = .ok (.getfield 24, 3) := by decide +kernel
theorem dX5_isFound_70 : decode cX5_isFound 70 = .ok (.iload_n 2, 1) := by decide +kernel
theorem dX5_isFound_71 : decode cX5_isFound 71 = .ok (.invokevirtual 67, 3) := by decide +kernel
theorem dX5_isFound_74 : decode cX5_isFound 74 = .ok (.invokestatic 71, 3) := by decide +kernel
theorem dX5_isFound_77 : decode cX5_isFound 77 = .ok (.ireturn, 1) := by decide +kernel
set_option maxRecDepth 20000 in
theorem ggX5_proves_X5_openGoal : GoodIn wsX5_proves wsX5_openGoal := goodIn_r _ [17, 5, 18, 7, 8, 19, 20, 21, 22, 23, 24, 25, 26, 27, 28, 29, 30, 31, 16, 32, 3, 9, 33, 34, 35, 36, 37, 38, 39, 40, 41, 42, 43, 44, 45, 46, 47, 48, 125, 126, 127, 128, 129, 135, 136, 137, 138, 139, 140, 141, 142, 130, 131, 132, 133, 134, 143, 144, 145, 146, 147, 148, 149, 150] (by decide +kernel) (by decide +kernel)
set_option maxRecDepth 20000 in
theorem gX5_proves_X5_openGoal : GoodIn wsX5_proves (wsV RX5 75 RX5 yX5_openGoal wsX5_openGoal) := goodIn_app (goodIn_of _ (by decide +kernel)) ggX5_proves_X5_openGoal
set_option maxRecDepth 20000 in
theorem ggX5_proves_X5_meetsSingle : GoodIn wsX5_proves wsX5_meetsSingle := goodIn_r _ [52, 9, 33, 5, 18, 10, 43, 44, 45, 46, 47, 48, 26, 27, 28, 34, 35, 36, 37, 38, 39, 40, 41, 42, 130, 131, 132, 133, 134, 125, 126, 127, 128, 129, 135, 136, 137, 138, 139, 140, 141, 142, 146, 147, 148, 149, 150, 143, 144, 145] (by decide +kernel) (by decide +kernel)
set_option maxRecDepth 20000 in
theorem gX5_proves_X5_meetsSingle : GoodIn wsX5_proves (wsV RX5 79 RX5 yX5_meetsSingle wsX5_meetsSingle) := goodIn_app (goodIn_of _ (by decide +kernel)) ggX5_proves_X5_meetsSingle
set_option maxRecDepth 20000 in
theorem ggX5_proves_X5_hasMet : GoodIn wsX5_proves wsX5_hasMet := goodIn_r _ [56, 57, 58, 3, 59, 10, 60, 61, 62, 37, 63, 39, 40, 41, 42, 64, 65, 66, 67, 68, 69, 70, 71, 125, 126, 127, 128, 129, 151, 152, 153, 154, 130, 131, 132, 133, 134, 143, 144, 145] (by decide +kernel) (by decide +kernel)
set_option maxRecDepth 20000 in
theorem gX5_proves_X5_hasMet : GoodIn wsX5_proves (wsV RX5 83 RX5 yX5_hasMet wsX5_hasMet) := goodIn_app (goodIn_of _ (by decide +kernel)) ggX5_proves_X5_hasMet
set_option maxRecDepth 20000 in
theorem ggX5_proves_X5_hasProved : GoodIn wsX5_proves wsX5_hasProved := goodIn_r _ [75, 12, 58, 76, 59, 3, 60, 61, 62, 37, 63, 39, 40, 41, 42, 125, 126, 127, 128, 129, 151, 152, 153, 154, 130, 131, 132, 133, 134, 143, 144, 145] (by decide +kernel) (by decide +kernel)
set_option maxRecDepth 20000 in
theorem gX5_proves_X5_hasProved : GoodIn wsX5_proves (wsV RX5 86 RX5 yX5_hasProved wsX5_hasProved) := goodIn_app (goodIn_of _ (by decide +kernel)) ggX5_proves_X5_hasProved
set_option maxRecDepth 20000 in
theorem ggX5_proves_X3_takeFrom : GoodIn wsX5_proves wsX3_takeFrom := goodIn_r _ [71, 39, 41, 42, 143, 144, 145] (by decide +kernel) (by decide +kernel)
set_option maxRecDepth 20000 in
theorem gX5_proves_X3_takeFrom : GoodIn wsX5_proves (wsV RX5 92 RX3 yX3_takeFrom wsX3_takeFrom) := goodIn_app (goodIn_of _ (by decide +kernel)) ggX5_proves_X3_takeFrom
set_option maxRecDepth 20000 in
theorem ggX5_proves_X5_firstTrial : GoodIn wsX5_proves wsX5_firstTrial := goodIn_r _ [80, 3, 5, 18, 6, 7, 8, 10, 81, 82, 83, 16, 84, 85, 86, 87, 88, 26, 27, 28, 64, 65, 66, 37, 67, 39, 41, 42, 34, 35, 36, 38, 40, 19, 20, 21, 22, 23, 24, 25, 89, 90, 91, 92, 11, 93, 94, 95, 96, 97, 98, 99, 100, 130, 131, 132, 133, 134, 125, 126, 127, 128, 129, 135, 136, 137, 138, 139, 140, 141, 142, 143, 144, 145] (by decide +kernel) (by decide +kernel)
set_option maxRecDepth 20000 in
theorem gX5_proves_X5_firstTrial : GoodIn wsX5_proves (wsV RX5 96 RX5 yX5_firstTrial wsX5_firstTrial) := goodIn_app (goodIn_of _ (by decide +kernel)) ggX5_proves_X5_firstTrial
set_option maxRecDepth 20000 in
theorem ggX5_proves_X9_at : GoodIn wsX5_proves wsX9_at := goodIn_r _ [28] (by decide +kernel) (by decide +kernel)
set_option maxRecDepth 20000 in
theorem gX5_proves_X9_at_n104 : GoodIn wsX5_proves (wsX9_at) := ggX5_proves_X9_at
set_option maxRecDepth 20000 in
theorem ggX5_proves_X5_assume : GoodIn wsX5_proves wsX5_assume := goodIn_r _ [32, 3, 9, 33, 34, 35, 36, 37, 38, 39, 40, 41, 42, 43, 44, 45, 46, 47, 48, 26, 27, 28, 130, 131, 132, 133, 134, 125, 126, 127, 128, 129, 143, 144, 145, 146, 147, 148, 149, 150] (by decide +kernel) (by decide +kernel)
set_option maxRecDepth 20000 in
theorem gX5_proves_X5_assume : GoodIn wsX5_proves (wsV RX5 59 RX5 yX5_assume wsX5_assume) := goodIn_app (goodIn_of _ (by decide +kernel)) ggX5_proves_X5_assume
set_option maxRecDepth 20000 in
theorem ggX5_proves_X5_proves : GoodIn wsX5_proves wsX5_proves := goodIn_r _ [0, 1, 2, 3, 4, 5, 6, 7, 8, 9, 10, 11, 12, 13, 14, 15, 16, 17, 18, 19, 20, 21, 22, 23, 24, 25, 26, 27, 28, 29, 30, 31, 32, 33, 34, 35, 36, 37, 38, 39, 40, 41, 42, 43, 44, 45, 46, 47, 48, 49, 50, 51, 52, 53, 54, 55, 56, 57, 58, 59, 60, 61, 62, 63, 64, 65, 66, 67, 68, 69, 70, 71, 72, 73, 74, 75, 76, 77, 78, 79, 80, 81, 82, 83, 84, 85, 86, 87, 88, 89, 90, 91, 92, 93, 94, 95, 96, 97, 98, 99, 100, 101, 102, 103, 104, 105, 106, 107, 108, 109, 110, 111, 112, 113, 114, 115, 116, 117, 118, 119, 120, 121, 122, 123, 124, 125, 126, 127, 128, 129, 130, 131, 132, 133, 134, 135, 136, 137, 138, 139, 140, 141, 142, 143, 144, 145, 146, 147, 148, 149, 150, 151, 152, 153, 154] (by decide +kernel) (by decide +kernel)
set_option maxRecDepth 20000 in
theorem gX5_proves_X5_proves : GoodIn wsX5_proves (va_wsS RX5 71 yX5_proves wsX5_proves) := goodIn_app (goodIn_of _ (by decide +kernel)) ggX5_proves_X5_proves
set_option maxRecDepth 20000 in
theorem ggX5_proves_X3_keepOnly : GoodIn wsX5_proves wsX3_keepOnly := goodIn_r _ [106, 39, 41, 42, 143, 144, 145] (by decide +kernel) (by decide +kernel)
set_option maxRecDepth 20000 in
theorem gX5_proves_X3_keepOnly : GoodIn wsX5_proves (wsV RX5 117 RX3 yX3_keepOnly wsX3_keepOnly) := goodIn_app (goodIn_of _ (by decide +kernel)) ggX5_proves_X3_keepOnly
set_option maxRecDepth 20000 in
theorem ggX5_proves_X3_set : GoodIn wsX5_proves wsX3_set := goodIn_r _ [38, 39, 40, 41, 42, 143, 144, 145] (by decide +kernel) (by decide +kernel)
set_option maxRecDepth 20000 in
theorem gX5_proves_X3_set : GoodIn wsX5_proves (wsV RX5 123 RX3 yX3_set wsX3_set) := goodIn_app (goodIn_of _ (by decide +kernel)) ggX5_proves_X3_set
set_option maxRecDepth 20000 in
theorem ggX5_proves_X5_nextTrial : GoodIn wsX5_proves wsX5_nextTrial := goodIn_r _ [100, 5, 18, 11, 3, 7, 64, 65, 66, 37, 67, 39, 41, 42, 19, 20, 21, 22, 23, 24, 25, 125, 126, 127, 128, 129, 135, 136, 137, 138, 139, 140, 141, 142, 130, 131, 132, 133, 134, 143, 144, 145] (by decide +kernel) (by decide +kernel)
set_option maxRecDepth 20000 in
theorem gX5_proves_X5_nextTrial : GoodIn wsX5_proves (wsV RX5 127 RX5 yX5_nextTrial wsX5_nextTrial) := goodIn_app (goodIn_of _ (by decide +kernel)) ggX5_proves_X5_nextTrial
set_option maxRecDepth 20000 in
theorem ggX5_proves_X1_add : GoodIn wsX5_proves wsX1_add := goodIn_r _ [111, 112, 113, 114, 115, 116, 117, 118, 119, 120, 69, 70, 37, 71, 39, 41, 42, 151, 152, 153, 154, 143, 144, 145] (by decide +kernel) (by decide +kernel)
set_option maxRecDepth 20000 in
theorem gX5_proves_X1_add : GoodIn wsX5_proves (wsV RX5 131 RX1 yX1_add wsX1_add) := goodIn_app (goodIn_of _ (by decide +kernel)) ggX5_proves_X1_add
set_option maxRecDepth 20000 in
theorem ggX5_proves_X5_meet : GoodIn wsX5_proves wsX5_meet := goodIn_r _ [124, 10, 5, 18, 7, 8, 6, 3, 57, 64, 65, 66, 37, 67, 39, 41, 42, 34, 35, 36, 38, 40, 107, 108, 109, 110, 111, 112, 113, 114, 115, 116, 117, 118, 119, 120, 69, 70, 71, 130, 131, 132, 133, 134, 125, 126, 127, 128, 129, 135, 136, 137, 138, 139, 140, 141, 142, 143, 144, 145, 151, 152, 153, 154] (by decide +kernel) (by decide +kernel)
set_option maxRecDepth 20000 in
theorem gX5_proves_X5_meet : GoodIn wsX5_proves (wsV RX5 135 RX5 yX5_meet wsX5_meet) := goodIn_app (goodIn_of _ (by decide +kernel)) ggX5_proves_X5_meet
theorem dX5_proves_0 : decode cX5_proves 0 = .ok (.iload_n 1, 1) := by decide +kernel
theorem dX5_proves_1 : decode cX5_proves 1 = .ok (.ifCond .lt 12, 3) := by decide +kernel
theorem dX5_proves_4 : decode cX5_proves 4 = .ok (.iload_n 1, 1) := by decide +kernel
theorem dX5_proves_5 : decode cX5_proves 5 = .ok (.iconst 1, 1) := by decide +kernel
theorem dX5_proves_6 : decode cX5_proves 6 = .ok (.iadd, 1) := by decide +kernel
theorem dX5_proves_7 : decode cX5_proves 7 = .ok (.sipush 153, 3) := by decide +kernel
theorem dX5_proves_10 : decode cX5_proves 10 = .ok (.if_icmp .lt 5, 3) := by decide +kernel
theorem dX5_proves_13 : decode cX5_proves 13 = .ok (.iconst 0, 1) := by decide +kernel
theorem dX5_proves_14 : decode cX5_proves 14 = .ok (.ireturn, 1) := by decide +kernel
theorem dX5_proves_15 : decode cX5_proves 15 = .ok (.aload_n 0, 1) := by decide +kernel
theorem dX5_proves_16 : decode cX5_proves 16 = .ok (.getfield 27, 3) := by decide +kernel
theorem dX5_proves_19 : decode cX5_proves 19 = .ok (.iload_n 1, 1) := by decide +kernel
theorem dX5_proves_20 : decode cX5_proves 20 = .ok (.aaload, 1) := by decide +kernel
theorem dX5_proves_21 : decode cX5_proves 21 = .ok (.astore_n 3, 1) := by decide +kernel
theorem dX5_proves_22 : decode cX5_proves 22 = .ok (.aload_n 0, 1) := by decide +kernel
theorem dX5_proves_23 : decode cX5_proves 23 = .ok (.getfield 27, 3) := by decide +kernel
theorem dX5_proves_26 : decode cX5_proves 26 = .ok (.iload_n 1, 1) := by decide +kernel
theorem dX5_proves_27 : decode cX5_proves 27 = .ok (.iconst 1, 1) := by decide +kernel
theorem dX5_proves_28 : decode cX5_proves 28 = .ok (.iadd, 1) := by decide +kernel
theorem dX5_proves_29 : decode cX5_proves 29 = .ok (.aaload, 1) := by decide +kernel
theorem dX5_proves_30 : decode cX5_proves 30 = .ok (.astore 4, 2) := by decide +kernel
theorem dX5_proves_32 : decode cX5_proves 32 = .ok (.aload_n 0, 1) := by decide +kernel
theorem dX5_proves_33 : decode cX5_proves 33 = .ok (.aload_n 3, 1) := by decide +kernel
theorem dX5_proves_34 : decode cX5_proves 34 = .ok (.iload_n 2, 1) := by decide +kernel
theorem dX5_proves_35 : decode cX5_proves 35 = .ok (.invokevirtual 75, 3) := by decide +kernel
theorem dX5_proves_38 : decode cX5_proves 38 = .ok (.istore 5, 2) := by decide +kernel
theorem dX5_proves_40 : decode cX5_proves 40 = .ok (.aload_n 0, 1) := by decide +kernel
theorem dX5_proves_41 : decode cX5_proves 41 = .ok (.aload_n 3, 1) := by decide +kernel
theorem dX5_proves_42 : decode cX5_proves 42 = .ok (.iload 5, 2) := by decide +kernel
theorem dX5_proves_44 : decode cX5_proves 44 = .ok (.invokevirtual 79, 3) := by decide +kernel
theorem dX5_proves_47 : decode cX5_proves 47 = .ok (.ifCond .ne 13, 3) := by decide +kernel
theorem dX5_proves_50 : decode cX5_proves 50 = .ok (.aload_n 0, 1) := by decide +kernel
theorem dX5_proves_51 : decode cX5_proves 51 = .ok (.aload_n 3, 1) := by decide +kernel
theorem dX5_proves_52 : decode cX5_proves 52 = .ok (.iload 5, 2) := by decide +kernel
theorem dX5_proves_54 : decode cX5_proves 54 = .ok (.invokevirtual 83, 3) := by decide +kernel
theorem dX5_proves_57 : decode cX5_proves 57 = .ok (.ifCond .eq 5, 3) := by decide +kernel
theorem dX5_proves_60 : decode cX5_proves 60 = .ok (.iconst 0, 1) := by decide +kernel
theorem dX5_proves_61 : decode cX5_proves 61 = .ok (.ireturn, 1) := by decide +kernel
theorem dX5_proves_62 : decode cX5_proves 62 = .ok (.iload 5, 2) := by decide +kernel
theorem dX5_proves_64 : decode cX5_proves 64 = .ok (.iconst 5, 1) := by decide +kernel
theorem dX5_proves_65 : decode cX5_proves 65 = .ok (.if_icmp .eq 13, 3) := by decide +kernel
theorem dX5_proves_68 : decode cX5_proves 68 = .ok (.aload_n 0, 1) := by decide +kernel
theorem dX5_proves_69 : decode cX5_proves 69 = .ok (.aload_n 3, 1) := by decide +kernel
theorem dX5_proves_70 : decode cX5_proves 70 = .ok (.iload 5, 2) := by decide +kernel
theorem dX5_proves_72 : decode cX5_proves 72 = .ok (.invokevirtual 86, 3) := by decide +kernel
theorem dX5_proves_75 : decode cX5_proves 75 = .ok (.ifCond .eq 5, 3) := by decide +kernel
theorem dX5_proves_78 : decode cX5_proves 78 = .ok (.iconst 1, 1) := by decide +kernel
theorem dX5_proves_79 : decode cX5_proves 79 = .ok (.ireturn, 1) := by decide +kernel
theorem dX5_proves_80 : decode cX5_proves 80 = .ok (.aload_n 3, 1) := by decide +kernel
theorem dX5_proves_81 : decode cX5_proves 81 = .ok (.getfield 89, 3) := by decide +kernel
theorem dX5_proves_84 : decode cX5_proves 84 = .ok (.aload_n 3, 1) := by decide +kernel
theorem dX5_proves_85 : decode cX5_proves 85 = .ok (.getfield 45, 3) := by decide +kernel
theorem dX5_proves_88 : decode cX5_proves 88 = .ok (.invokevirtual 92, 3) := by decide +kernel
theorem dX5_proves_91 : decode cX5_proves 91 = .ok (.aload_n 0, 1) := by decide +kernel
theorem dX5_proves_92 : decode cX5_proves 92 = .ok (.aload_n 3, 1) := by decide +kernel
theorem dX5_proves_93 : decode cX5_proves 93 = .ok (.iload 5, 2) := by decide +kernel
theorem dX5_proves_95 : decode cX5_proves 95 = .ok (.invokevirtual 96, 3) := by decide +kernel
theorem dX5_proves_98 : decode cX5_proves 98 = .ok (.istore 6, 2) := by decide +kernel
theorem dX5_proves_100 : decode cX5_proves 100 = .ok (.iconst 0, 1) := by decide +kernel
theorem dX5_proves_101 : decode cX5_proves 101 = .ok (.istore 7, 2) := by decide +kernel
theorem dX5_proves_103 : decode cX5_proves 103 = .ok (.iload 6, 2) := by decide +kernel
theorem dX5_proves_105 : decode cX5_proves 105 = .ok (.ifCond .lt 196, 3) := by decide +kernel
theorem dX5_proves_108 : decode cX5_proves 108 = .ok (.iload 7, 2) := by decide +kernel
theorem dX5_proves_110 : decode cX5_proves 110 = .ok (.ldc 99, 2) := by decide +kernel
theorem dX5_proves_112 : decode cX5_proves 112 = .ok (.if_icmp .ge 189, 3) := by decide +kernel
theorem dX5_proves_115 : decode cX5_proves 115 = .ok (.aload_n 0, 1) := by decide +kernel
theorem dX5_proves_116 : decode cX5_proves 116 = .ok (.getfield 24, 3) := by decide +kernel
theorem dX5_proves_119 : decode cX5_proves 119 = .ok (.getfield 100, 3) := by decide +kernel
theorem dX5_proves_122 : decode cX5_proves 122 = .ok (.iload 6, 2) := by decide +kernel
theorem dX5_proves_124 : decode cX5_proves 124 = .ok (.invokestatic 104, 3) := by decide +kernel
theorem dX5_proves_127 : decode cX5_proves 127 = .ok (.bipush 8, 2) := by decide +kernel
theorem dX5_proves_129 : decode cX5_proves 129 = .ok (.if_icmp .ne 7, 3) := by decide +kernel
theorem dX5_proves_132 : decode cX5_proves 132 = .ok (.iconst 1, 1) := by decide +kernel
theorem dX5_proves_133 : decode cX5_proves 133 = .ok (.goto 4, 3) := by decide +kernel
theorem dX5_proves_136 : decode cX5_proves 136 = .ok (.iconst 0, 1) := by decide +kernel
theorem dX5_proves_137 : decode cX5_proves 137 = .ok (.istore 8, 2) := by decide +kernel
theorem dX5_proves_139 : decode cX5_proves 139 = .ok (.aload_n 0, 1) := by decide +kernel
theorem dX5_proves_140 : decode cX5_proves 140 = .ok (.getfield 24, 3) := by decide +kernel
theorem dX5_proves_143 : decode cX5_proves 143 = .ok (.getfield 108, 3) := by decide +kernel
theorem dX5_proves_146 : decode cX5_proves 146 = .ok (.iload 6, 2) := by decide +kernel
theorem dX5_proves_148 : decode cX5_proves 148 = .ok (.invokestatic 104, 3) := by decide +kernel
theorem dX5_proves_151 : decode cX5_proves 151 = .ok (.istore 9, 2) := by decide +kernel
theorem dX5_proves_153 : decode cX5_proves 153 = .ok (.aload_n 0, 1) := by decide +kernel
theorem dX5_proves_154 : decode cX5_proves 154 = .ok (.getfield 24, 3) := by decide +kernel
theorem dX5_proves_157 : decode cX5_proves 157 = .ok (.getfield 111, 3) := by decide +kernel
theorem dX5_proves_160 : decode cX5_proves 160 = .ok (.iload 6, 2) := by decide +kernel
theorem dX5_proves_162 : decode cX5_proves 162 = .ok (.invokestatic 104, 3) := by decide +kernel
theorem dX5_proves_165 : decode cX5_proves 165 = .ok (.istore 10, 2) := by decide +kernel
theorem dX5_proves_167 : decode cX5_proves 167 = .ok (.aload 4, 2) := by decide +kernel
theorem dX5_proves_169 : decode cX5_proves 169 = .ok (.getfield 45, 3) := by decide +kernel
theorem dX5_proves_172 : decode cX5_proves 172 = .ok (.aload_n 3, 1) := by decide +kernel
theorem dX5_proves_173 : decode cX5_proves 173 = .ok (.getfield 45, 3) := by decide +kernel
theorem dX5_proves_176 : decode cX5_proves 176 = .ok (.invokevirtual 92, 3) := by decide +kernel
theorem dX5_proves_179 : decode cX5_proves 179 = .ok (.aload 4, 2) := by decide +kernel
theorem dX5_proves_181 : decode cX5_proves 181 = .ok (.aload_n 3, 1) := by decide +kernel
theorem dX5_proves_182 : decode cX5_proves 182 = .ok (.getfield 55, 3) := by decide +kernel
theorem dX5_proves_185 : decode cX5_proves 185 = .ok (.putfield 55, 3) := by decide +kernel
theorem dX5_proves_188 : decode cX5_proves 188 = .ok (.aload_n 0, 1) := by decide +kernel
theorem dX5_proves_189 : decode cX5_proves 189 = .ok (.aload 4, 2) := by decide +kernel
theorem dX5_proves_191 : decode cX5_proves 191 = .ok (.iload 9, 2) := by decide +kernel
theorem dX5_proves_193 : decode cX5_proves 193 = .ok (.invokevirtual 59, 3) := by decide +kernel
theorem dX5_proves_196 : decode cX5_proves 196 = .ok (.aload_n 0, 1) := by decide +kernel
theorem dX5_proves_197 : decode cX5_proves 197 = .ok (.iload_n 1, 1) := by decide +kernel
theorem dX5_proves_198 : decode cX5_proves 198 = .ok (.iconst 1, 1) := by decide +kernel
theorem dX5_proves_199 : decode cX5_proves 199 = .ok (.iadd, 1) := by decide +kernel
theorem dX5_proves_200 : decode cX5_proves 200 = .ok (.iload 8, 2) := by decide +kernel
theorem dX5_proves_202 : decode cX5_proves 202 = .ok (.ifCond .eq 8, 3) := by decide +kernel
theorem dX5_proves_205 : decode cX5_proves 205 = .ok (.iload 5, 2) := by decide +kernel
theorem dX5_proves_207 : decode cX5_proves 207 = .ok (.goto 5, 3) := by decide +kernel
theorem dX5_proves_210 : decode cX5_proves 210 = .ok (.iload 10, 2) := by decide +kernel
theorem dX5_proves_212 : decode cX5_proves 212 = .ok (.invokestatic 71, 3) := by decide +kernel
theorem dX5_proves_215 : decode cX5_proves 215 = .ok (.ifCond .eq 32, 3) := by decide +kernel
theorem dX5_proves_218 : decode cX5_proves 218 = .ok (.aload_n 0, 1) := by decide +kernel
theorem dX5_proves_219 : decode cX5_proves 219 = .ok (.aload_n 3, 1) := by decide +kernel
theorem dX5_proves_220 : decode cX5_proves 220 = .ok (.iload 8, 2) := by decide +kernel
theorem dX5_proves_222 : decode cX5_proves 222 = .ok (.ifCond .eq 8, 3) := by decide +kernel
theorem dX5_proves_225 : decode cX5_proves 225 = .ok (.iload 10, 2) := by decide +kernel
theorem dX5_proves_227 : decode cX5_proves 227 = .ok (.goto 5, 3) := by decide +kernel
theorem dX5_proves_230 : decode cX5_proves 230 = .ok (.iload 6, 2) := by decide +kernel
theorem dX5_proves_232 : decode cX5_proves 232 = .ok (.invokevirtual 59, 3) := by decide +kernel
theorem dX5_proves_235 : decode cX5_proves 235 = .ok (.aload_n 0, 1) := by decide +kernel
theorem dX5_proves_236 : decode cX5_proves 236 = .ok (.aload_n 3, 1) := by decide +kernel
theorem dX5_proves_237 : decode cX5_proves 237 = .ok (.iload 5, 2) := by decide +kernel
theorem dX5_proves_239 : decode cX5_proves 239 = .ok (.invokevirtual 96, 3) := by decide +kernel
theorem dX5_proves_242 : decode cX5_proves 242 = .ok (.istore 6, 2) := by decide +kernel
theorem dX5_proves_244 : decode cX5_proves 244 = .ok (.goto 51, 3) := by decide +kernel
theorem dX5_proves_247 : decode cX5_proves 247 = .ok (.iload 8, 2) := by decide +kernel
theorem dX5_proves_249 : decode cX5_proves 249 = .ok (.ifCond .eq 17, 3) := by decide +kernel
theorem dX5_proves_252 : decode cX5_proves 252 = .ok (.aload_n 3, 1) := by decide +kernel
theorem dX5_proves_253 : decode cX5_proves 253 = .ok (.getfield 114, 3) := by decide +kernel
theorem dX5_proves_256 : decode cX5_proves 256 = .ok (.aload 4, 2) := by decide +kernel
theorem dX5_proves_258 : decode cX5_proves 258 = .ok (.getfield 114, 3) := by decide +kernel
theorem dX5_proves_261 : decode cX5_proves 261 = .ok (.invokevirtual 92, 3) := by decide +kernel
theorem dX5_proves_264 : decode cX5_proves 264 = .ok (.iconst 0, 1) := by decide +kernel
theorem dX5_proves_265 : decode cX5_proves 265 = .ok (.ireturn, 1) := by decide +kernel
theorem dX5_proves_266 : decode cX5_proves 266 = .ok (.aload_n 3, 1) := by decide +kernel
theorem dX5_proves_267 : decode cX5_proves 267 = .ok (.getfield 114, 3) := by decide +kernel
theorem dX5_proves_270 : decode cX5_proves 270 = .ok (.aload 4, 2) := by decide +kernel
theorem dX5_proves_272 : decode cX5_proves 272 = .ok (.getfield 114, 3) := by decide +kernel
theorem dX5_proves_275 : decode cX5_proves 275 = .ok (.invokevirtual 117, 3) := by decide +kernel
theorem dX5_proves_278 : decode cX5_proves 278 = .ok (.aload_n 3, 1) := by decide +kernel
theorem dX5_proves_279 : decode cX5_proves 279 = .ok (.getfield 120, 3) := by decide +kernel
theorem dX5_proves_282 : decode cX5_proves 282 = .ok (.iload 6, 2) := by decide +kernel
theorem dX5_proves_284 : decode cX5_proves 284 = .ok (.iconst 0, 1) := by decide +kernel
theorem dX5_proves_285 : decode cX5_proves 285 = .ok (.invokevirtual 123, 3) := by decide +kernel
theorem dX5_proves_288 : decode cX5_proves 288 = .ok (.aload_n 0, 1) := by decide +kernel
theorem dX5_proves_289 : decode cX5_proves 289 = .ok (.aload_n 3, 1) := by decide +kernel
theorem dX5_proves_290 : decode cX5_proves 290 = .ok (.invokevirtual 127, 3) := by decide +kernel
theorem dX5_proves_293 : decode cX5_proves 293 = .ok (.istore 6, 2) := by decide +kernel
theorem dX5_proves_295 : decode cX5_proves 295 = .ok (.iinc 7 1, 3) := by decide +kernel
theorem dX5_proves_298 : decode cX5_proves 298 = .ok (.goto (-195), 3) := by decide +kernel
theorem dX5_proves_301 : decode cX5_proves 301 = .ok (.iload 6, 2) := by decide +kernel
theorem dX5_proves_303 : decode cX5_proves 303 = .ok (.iconst (-1), 1) := by decide +kernel
theorem dX5_proves_304 : decode cX5_proves 304 = .ok (.if_icmp .ne 18, 3) := by decide +kernel
theorem dX5_proves_307 : decode cX5_proves 307 = .ok (.aload_n 0, 1) := by decide +kernel
theorem dX5_proves_308 : decode cX5_proves 308 = .ok (.getfield 38, 3) := by decide +kernel
theorem dX5_proves_311 : decode cX5_proves 311 = .ok (.aload_n 3, 1) := by decide +kernel
theorem dX5_proves_312 : decode cX5_proves 312 = .ok (.getfield 89, 3) := by decide +kernel
theorem dX5_proves_315 : decode cX5_proves 315 = .ok (.iload 5, 2) := by decide +kernel
theorem dX5_proves_317 : decode cX5_proves 317 = .ok (.invokevirtual 131, 3) := by decide +kernel
theorem dX5_proves_320 : decode cX5_proves 320 = .ok (.iconst 1, 1) := by decide +kernel
theorem dX5_proves_321 : decode cX5_proves 321 = .ok (.ireturn, 1) := by decide +kernel
theorem dX5_proves_322 : decode cX5_proves 322 = .ok (.aload_n 0, 1) := by decide +kernel
theorem dX5_proves_323 : decode cX5_proves 323 = .ok (.aload_n 3, 1) := by decide +kernel
theorem dX5_proves_324 : decode cX5_proves 324 = .ok (.invokevirtual 135, 3) := by decide +kernel
theorem dX5_proves_327 : decode cX5_proves 327 = .ok (.iconst 0, 1) := by decide +kernel
theorem dX5_proves_328 : decode cX5_proves 328 = .ok (.ireturn, 1) := by decide +kernel
set_option maxRecDepth 20000 in
theorem ggX5_assume_X3_set : GoodIn wsX5_assume wsX3_set := goodIn_r _ [8, 9, 10, 11, 12, 32, 33, 34] (by decide +kernel) (by decide +kernel)
set_option maxRecDepth 20000 in
theorem gX5_assume_X3_set : GoodIn wsX5_assume (wsV RX5 123 RX3 yX3_set wsX3_set) := goodIn_app (goodIn_of _ (by decide +kernel)) ggX5_assume_X3_set
set_option maxRecDepth 20000 in
theorem ggX5_assume_X6_singles : GoodIn wsX5_assume wsX6_singles := goodIn_r _ [17, 18, 19, 20, 21, 35, 36, 37, 38, 39] (by decide +kernel) (by decide +kernel)
set_option maxRecDepth 20000 in
theorem gX5_assume_X6_singles : GoodIn wsX5_assume (wsV RX5 139 RX6 yX6_singles wsX6_singles) := goodIn_app (goodIn_of _ (by decide +kernel)) ggX5_assume_X6_singles
theorem dX5_assume_0 : decode cX5_assume 0 = .ok (.aload_n 1, 1) := by decide +kernel
theorem dX5_assume_1 : decode cX5_assume 1 = .ok (.getfield 45, 3) := by decide +kernel
theorem dX5_assume_4 : decode cX5_assume 4 = .ok (.iload_n 2, 1) := by decide +kernel
theorem dX5_assume_5 : decode cX5_assume 5 = .ok (.iconst 1, 1) := by decide +kernel
theorem dX5_assume_6 : decode cX5_assume 6 = .ok (.invokevirtual 123, 3) := by decide +kernel
theorem dX5_assume_9 : decode cX5_assume 9 = .ok (.aload_n 1, 1) := by decide +kernel
theorem dX5_assume_10 : decode cX5_assume 10 = .ok (.dup, 1) := by decide +kernel
theorem dX5_assume_11 : decode cX5_assume 11 = .ok (.getfield 55, 3) := by decide +kernel
theorem dX5_assume_14 : decode cX5_assume 14 = .ok (.aload_n 0, 1) := by decide +kernel
theorem dX5_assume_15 : decode cX5_assume 15 = .ok (.getfield 14, 3) := by decide +kernel
theorem dX5_assume_18 : decode cX5_assume 18 = .ok (.iload_n 2, 1) := by decide +kernel
theorem dX5_assume_19 : decode cX5_assume 19 = .ok (.invokevirtual 139, 3) := by decide +kernel
theorem dX5_assume_22 : decode cX5_assume 22 = .ok (.iand, 1) := by decide +kernel
theorem dX5_assume_23 : decode cX5_assume 23 = .ok (.putfield 55, 3) := by decide +kernel
theorem dX5_assume_26 : decode cX5_assume 26 = .ok (.return_, 1) := by decide +kernel
set_option maxRecDepth 20000 in
theorem ggX5_openGoal_X4_isIf : GoodIn wsX5_openGoal wsX4_isIf := goodIn_r _ [9, 10, 11, 43, 44, 45, 46, 47, 48, 49, 50] (by decide +kernel) (by decide +kernel)
set_option maxRecDepth 20000 in
theorem gX5_openGoal_X4_isIf : GoodIn wsX5_openGoal (wsV RX5 144 RX4 yX4_isIf wsX4_isIf) := goodIn_app (goodIn_of _ (by decide +kernel)) ggX5_openGoal_X4_isIf
set_option maxRecDepth 20000 in
theorem ggX5_openGoal_X9_at : GoodIn wsX5_openGoal wsX9_at := goodIn_r _ [14] (by decide +kernel) (by decide +kernel)
set_option maxRecDepth 20000 in
theorem gX5_openGoal_X9_at_n104 : GoodIn wsX5_openGoal (wsX9_at) := ggX5_openGoal_X9_at
set_option maxRecDepth 20000 in
theorem ggX5_openGoal_X5_assume : GoodIn wsX5_openGoal wsX5_assume := goodIn_r _ [19, 20, 21, 22, 23, 24, 25, 26, 27, 28, 29, 30, 31, 32, 33, 34, 35, 36, 37, 12, 13, 14, 51, 52, 53, 54, 55, 38, 39, 40, 41, 42, 56, 57, 58, 59, 60, 61, 62, 63] (by decide +kernel) (by decide +kernel)
set_option maxRecDepth 20000 in
theorem gX5_openGoal_X5_assume : GoodIn wsX5_openGoal (wsV RX5 59 RX5 yX5_assume wsX5_assume) := goodIn_app (goodIn_of _ (by decide +kernel)) ggX5_openGoal_X5_assume
theorem dX5_openGoal_0 : decode cX5_openGoal 0 = .ok (.iload_n 2, 1) := by decide +kernel
theorem dX5_openGoal_1 : decode cX5_openGoal 1 = .ok (.istore_n 3, 1) := by decide +kernel
theorem dX5_openGoal_2 : decode cX5_openGoal 2 = .ok (.iconst 0, 1) := by decide +kernel
theorem dX5_openGoal_3 : decode cX5_openGoal 3 = .ok (.istore 4, 2) := by decide +kernel
theorem dX5_openGoal_5 : decode cX5_openGoal 5 = .ok (.iload 4, 2) := by decide +kernel
theorem dX5_openGoal_7 : decode cX5_openGoal 7 = .ok (.aload_n 0, 1) := by decide +kernel
theorem dX5_openGoal_8 : decode cX5_openGoal 8 = .ok (.getfield 24, 3) := by decide +kernel
theorem dX5_openGoal_11 : decode cX5_openGoal 11 = .ok (.getfield 141, 3) := by decide +kernel
theorem dX5_openGoal_14 : decode cX5_openGoal 14 = .ok (.if_icmp .ge 48, 3) := by decide +kernel
theorem dX5_openGoal_17 : decode cX5_openGoal 17 = .ok (.aload_n 0, 1) := by decide +kernel
theorem dX5_openGoal_18 : decode cX5_openGoal 18 = .ok (.getfield 24, 3) := by decide +kernel
theorem dX5_openGoal_21 : decode cX5_openGoal 21 = .ok (.iload_n 3, 1) := by decide +kernel
theorem dX5_openGoal_22 : decode cX5_openGoal 22 = .ok (.invokevirtual 144, 3) := by decide +kernel
theorem dX5_openGoal_25 : decode cX5_openGoal 25 = .ok (.ifCond .eq 37, 3) := by decide +kernel
theorem dX5_openGoal_28 : decode cX5_openGoal 28 = .ok (.aload_n 0, 1) := by decide +kernel
theorem dX5_openGoal_29 : decode cX5_openGoal 29 = .ok (.aload_n 1, 1) := by decide +kernel
theorem dX5_openGoal_30 : decode cX5_openGoal 30 = .ok (.aload_n 0, 1) := by decide +kernel
theorem dX5_openGoal_31 : decode cX5_openGoal 31 = .ok (.getfield 24, 3) := by decide +kernel
theorem dX5_openGoal_34 : decode cX5_openGoal 34 = .ok (.getfield 108, 3) := by decide +kernel
theorem dX5_openGoal_37 : decode cX5_openGoal 37 = .ok (.iload_n 3, 1) := by decide +kernel
theorem dX5_openGoal_38 : decode cX5_openGoal 38 = .ok (.invokestatic 104, 3) := by decide +kernel
theorem dX5_openGoal_41 : decode cX5_openGoal 41 = .ok (.invokevirtual 59, 3) := by decide +kernel
theorem dX5_openGoal_44 : decode cX5_openGoal 44 = .ok (.aload_n 0, 1) := by decide +kernel
theorem dX5_openGoal_45 : decode cX5_openGoal 45 = .ok (.getfield 24, 3) := by decide +kernel
theorem dX5_openGoal_48 : decode cX5_openGoal 48 = .ok (.getfield 111, 3) := by decide +kernel
theorem dX5_openGoal_51 : decode cX5_openGoal 51 = .ok (.iload_n 3, 1) := by decide +kernel
theorem dX5_openGoal_52 : decode cX5_openGoal 52 = .ok (.invokestatic 104, 3) := by decide +kernel
theorem dX5_openGoal_55 : decode cX5_openGoal 55 = .ok (.istore_n 3, 1) := by decide +kernel
theorem dX5_openGoal_56 : decode cX5_openGoal 56 = .ok (.iinc 4 1, 3) := by decide +kernel
theorem dX5_openGoal_59 : decode cX5_openGoal 59 = .ok (.goto (-54), 3) := by decide +kernel
theorem dX5_openGoal_62 : decode cX5_openGoal 62 = .ok (.iload_n 3, 1) := by decide +kernel
theorem dX5_openGoal_63 : decode cX5_openGoal 63 = .ok (.ireturn, 1) := by decide +kernel
set_option maxRecDepth 20000 in
theorem ggX5_meetsSingle_X6_singles : GoodIn wsX5_meetsSingle wsX6_singles := goodIn_r _ [10, 11, 12, 13, 14, 42, 43, 44, 45, 46] (by decide +kernel) (by decide +kernel)
set_option maxRecDepth 20000 in
theorem gX5_meetsSingle_X6_singles : GoodIn wsX5_meetsSingle (wsV RX5 139 RX6 yX6_singles wsX6_singles) := goodIn_app (goodIn_of _ (by decide +kernel)) ggX5_meetsSingle_X6_singles
set_option maxRecDepth 20000 in
theorem ggX5_meetsSingle_X3_set : GoodIn wsX5_meetsSingle wsX3_set := goodIn_r _ [19, 20, 21, 22, 23, 47, 48, 49] (by decide +kernel) (by decide +kernel)
set_option maxRecDepth 20000 in
theorem gX5_meetsSingle_X3_set : GoodIn wsX5_meetsSingle (wsV RX5 123 RX3 yX3_set wsX3_set) := goodIn_app (goodIn_of _ (by decide +kernel)) ggX5_meetsSingle_X3_set
theorem dX5_meetsSingle_0 : decode cX5_meetsSingle 0 = .ok (.aload_n 1, 1) := by decide +kernel
theorem dX5_meetsSingle_1 : decode cX5_meetsSingle 1 = .ok (.getfield 55, 3) := by decide +kernel
theorem dX5_meetsSingle_4 : decode cX5_meetsSingle 4 = .ok (.aload_n 0, 1) := by decide +kernel
theorem dX5_meetsSingle_5 : decode cX5_meetsSingle 5 = .ok (.getfield 14, 3) := by decide +kernel
theorem dX5_meetsSingle_8 : decode cX5_meetsSingle 8 = .ok (.iload_n 2, 1) := by decide +kernel
theorem dX5_meetsSingle_9 : decode cX5_meetsSingle 9 = .ok (.invokevirtual 139, 3) := by decide +kernel
theorem dX5_meetsSingle_12 : decode cX5_meetsSingle 12 = .ok (.iconst (-1), 1) := by decide +kernel
theorem dX5_meetsSingle_13 : decode cX5_meetsSingle 13 = .ok (.ixor, 1) := by decide +kernel
theorem dX5_meetsSingle_14 : decode cX5_meetsSingle 14 = .ok (.iand, 1) := by decide +kernel
theorem dX5_meetsSingle_15 : decode cX5_meetsSingle 15 = .ok (.istore_n 3, 1) := by decide +kernel
theorem dX5_meetsSingle_16 : decode cX5_meetsSingle 16 = .ok (.iload_n 3, 1) := by decide +kernel
theorem dX5_meetsSingle_17 : decode cX5_meetsSingle 17 = .ok (.ifCond .ne 5, 3) := by decide +kernel
theorem dX5_meetsSingle_20 : decode cX5_meetsSingle 20 = .ok (.iconst 0, 1) := by decide +kernel
theorem dX5_meetsSingle_21 : decode cX5_meetsSingle 21 = .ok (.ireturn, 1) := by decide +kernel
theorem dX5_meetsSingle_22 : decode cX5_meetsSingle 22 = .ok (.iload_n 3, 1) := by decide +kernel
theorem dX5_meetsSingle_23 : decode cX5_meetsSingle 23 = .ok (.iload_n 3, 1) := by decide +kernel
theorem dX5_meetsSingle_24 : decode cX5_meetsSingle 24 = .ok (.ineg, 1) := by decide +kernel
theorem dX5_meetsSingle_25 : decode cX5_meetsSingle 25 = .ok (.iand, 1) := by decide +kernel
theorem dX5_meetsSingle_26 : decode cX5_meetsSingle 26 = .ok (.istore 4, 2) := by decide +kernel
theorem dX5_meetsSingle_28 : decode cX5_meetsSingle 28 = .ok (.iconst 0, 1) := by decide +kernel
theorem dX5_meetsSingle_29 : decode cX5_meetsSingle 29 = .ok (.istore 5, 2) := by decide +kernel
theorem dX5_meetsSingle_31 : decode cX5_meetsSingle 31 = .ok (.iload 5, 2) := by decide +kernel
theorem dX5_meetsSingle_33 : decode cX5_meetsSingle 33 = .ok (.aload_n 0, 1) := by decide +kernel
theorem dX5_meetsSingle_34 : decode cX5_meetsSingle 34 = .ok (.getfield 24, 3) := by decide +kernel
theorem dX5_meetsSingle_37 : decode cX5_meetsSingle 37 = .ok (.getfield 141, 3) := by decide +kernel
theorem dX5_meetsSingle_40 : decode cX5_meetsSingle 40 = .ok (.if_icmp .ge 38, 3) := by decide +kernel
theorem dX5_meetsSingle_43 : decode cX5_meetsSingle 43 = .ok (.aload_n 1, 1) := by decide +kernel
theorem dX5_meetsSingle_44 : decode cX5_meetsSingle 44 = .ok (.getfield 114, 3) := by decide +kernel
theorem dX5_meetsSingle_47 : decode cX5_meetsSingle 47 = .ok (.iload 5, 2) := by decide +kernel
theorem dX5_meetsSingle_49 : decode cX5_meetsSingle 49 = .ok (.aload_n 0, 1) := by decide +kernel
theorem dX5_meetsSingle_50 : decode cX5_meetsSingle 50 = .ok (.getfield 14, 3) := by decide +kernel
theorem dX5_meetsSingle_53 : decode cX5_meetsSingle 53 = .ok (.iload 5, 2) := by decide +kernel
theorem dX5_meetsSingle_55 : decode cX5_meetsSingle 55 = .ok (.invokevirtual 139, 3) := by decide +kernel
theorem dX5_meetsSingle_58 : decode cX5_meetsSingle 58 = .ok (.iload 4, 2) := by decide +kernel
theorem dX5_meetsSingle_60 : decode cX5_meetsSingle 60 = .ok (.iand, 1) := by decide +kernel
theorem dX5_meetsSingle_61 : decode cX5_meetsSingle 61 = .ok (.ifCond .eq 7, 3) := by decide +kernel
theorem dX5_meetsSingle_64 : decode cX5_meetsSingle 64 = .ok (.iconst 1, 1) := by decide +kernel
theorem dX5_meetsSingle_65 : decode cX5_meetsSingle 65 = .ok (.goto 4, 3) := by decide +kernel
theorem dX5_meetsSingle_68 : decode cX5_meetsSingle 68 = .ok (.iconst 0, 1) := by decide +kernel
theorem dX5_meetsSingle_69 : decode cX5_meetsSingle 69 = .ok (.invokevirtual 123, 3) := by decide +kernel
theorem dX5_meetsSingle_72 : decode cX5_meetsSingle 72 = .ok (.iinc 5 1, 3) := by decide +kernel
theorem dX5_meetsSingle_75 : decode cX5_meetsSingle 75 = .ok (.goto (-44), 3) := by decide +kernel
theorem dX5_meetsSingle_78 : decode cX5_meetsSingle 78 = .ok (.iconst 1, 1) := by decide +kernel
theorem dX5_meetsSingle_79 : decode cX5_meetsSingle 79 = .ok (.ireturn, 1) := by decide +kernel
set_option maxRecDepth 20000 in
theorem ggX5_hasMet_X3_isWithin : GoodIn wsX5_hasMet wsX3_isWithin := goodIn_r _ [10, 11, 12, 13, 14, 37, 38, 39] (by decide +kernel) (by decide +kernel)
set_option maxRecDepth 20000 in
theorem gX5_hasMet_X3_isWithin : GoodIn wsX5_hasMet (wsV RX5 153 RX3 yX3_isWithin wsX3_isWithin) := goodIn_app (goodIn_of _ (by decide +kernel)) ggX5_hasMet_X3_isWithin
set_option maxRecDepth 20000 in
theorem ggX5_hasMet_X3_has : GoodIn wsX5_hasMet wsX3_has := goodIn_r _ [18, 11, 13, 14, 37, 38, 39] (by decide +kernel) (by decide +kernel)
set_option maxRecDepth 20000 in
theorem gX5_hasMet_X3_has : GoodIn wsX5_hasMet (wsV RX5 157 RX3 yX3_has wsX3_has) := goodIn_app (goodIn_of _ (by decide +kernel)) ggX5_hasMet_X3_has
set_option maxRecDepth 20000 in
theorem ggX5_hasMet_X3_takeFrom : GoodIn wsX5_hasMet wsX3_takeFrom := goodIn_r _ [22, 11, 13, 14, 37, 38, 39] (by decide +kernel) (by decide +kernel)
set_option maxRecDepth 20000 in
theorem gX5_hasMet_X3_takeFrom : GoodIn wsX5_hasMet (wsV RX5 92 RX3 yX3_takeFrom wsX3_takeFrom) := goodIn_app (goodIn_of _ (by decide +kernel)) ggX5_hasMet_X3_takeFrom
theorem dX5_hasMet_0 : decode cX5_hasMet 0 = .ok (.iconst 0, 1) := by decide +kernel
theorem dX5_hasMet_1 : decode cX5_hasMet 1 = .ok (.istore_n 3, 1) := by decide +kernel
theorem dX5_hasMet_2 : decode cX5_hasMet 2 = .ok (.iload_n 3, 1) := by decide +kernel
theorem dX5_hasMet_3 : decode cX5_hasMet 3 = .ok (.aload_n 0, 1) := by decide +kernel
theorem dX5_hasMet_4 : decode cX5_hasMet 4 = .ok (.getfield 34, 3) := by decide +kernel
theorem dX5_hasMet_7 : decode cX5_hasMet 7 = .ok (.getfield 148, 3) := by decide +kernel
theorem dX5_hasMet_10 : decode cX5_hasMet 10 = .ok (.if_icmp .ge 69, 3) := by decide +kernel
theorem dX5_hasMet_13 : decode cX5_hasMet 13 = .ok (.iload_n 3, 1) := by decide +kernel
theorem dX5_hasMet_14 : decode cX5_hasMet 14 = .ok (.sipush 128, 3) := by decide +kernel
theorem dX5_hasMet_17 : decode cX5_hasMet 17 = .ok (.if_icmp .ge 62, 3) := by decide +kernel
theorem dX5_hasMet_20 : decode cX5_hasMet 20 = .ok (.aload_n 1, 1) := by decide +kernel
theorem dX5_hasMet_21 : decode cX5_hasMet 21 = .ok (.getfield 45, 3) := by decide +kernel
theorem dX5_hasMet_24 : decode cX5_hasMet 24 = .ok (.aload_n 0, 1) := by decide +kernel
theorem dX5_hasMet_25 : decode cX5_hasMet 25 = .ok (.getfield 34, 3) := by decide +kernel
theorem dX5_hasMet_28 : decode cX5_hasMet 28 = .ok (.getfield 149, 3) := by decide +kernel
theorem dX5_hasMet_31 : decode cX5_hasMet 31 = .ok (.iload_n 3, 1) := by decide +kernel
theorem dX5_hasMet_32 : decode cX5_hasMet 32 = .ok (.aaload, 1) := by decide +kernel
theorem dX5_hasMet_33 : decode cX5_hasMet 33 = .ok (.invokevirtual 153, 3) := by decide +kernel
theorem dX5_hasMet_36 : decode cX5_hasMet 36 = .ok (.ifCond .eq 37, 3) := by decide +kernel
theorem dX5_hasMet_39 : decode cX5_hasMet 39 = .ok (.aload_n 0, 1) := by decide +kernel
theorem dX5_hasMet_40 : decode cX5_hasMet 40 = .ok (.getfield 34, 3) := by decide +kernel
theorem dX5_hasMet_43 : decode cX5_hasMet 43 = .ok (.getfield 149, 3) := by decide +kernel
theorem dX5_hasMet_46 : decode cX5_hasMet 46 = .ok (.iload_n 3, 1) := by decide +kernel
theorem dX5_hasMet_47 : decode cX5_hasMet 47 = .ok (.aaload, 1) := by decide +kernel
theorem dX5_hasMet_48 : decode cX5_hasMet 48 = .ok (.iload_n 2, 1) := by decide +kernel
theorem dX5_hasMet_49 : decode cX5_hasMet 49 = .ok (.invokevirtual 157, 3) := by decide +kernel
theorem dX5_hasMet_52 : decode cX5_hasMet 52 = .ok (.ifCond .ne 21, 3) := by decide +kernel
theorem dX5_hasMet_55 : decode cX5_hasMet 55 = .ok (.aload_n 1, 1) := by decide +kernel
theorem dX5_hasMet_56 : decode cX5_hasMet 56 = .ok (.getfield 114, 3) := by decide +kernel
theorem dX5_hasMet_59 : decode cX5_hasMet 59 = .ok (.aload_n 0, 1) := by decide +kernel
theorem dX5_hasMet_60 : decode cX5_hasMet 60 = .ok (.getfield 34, 3) := by decide +kernel
theorem dX5_hasMet_63 : decode cX5_hasMet 63 = .ok (.getfield 149, 3) := by decide +kernel
theorem dX5_hasMet_66 : decode cX5_hasMet 66 = .ok (.iload_n 3, 1) := by decide +kernel
theorem dX5_hasMet_67 : decode cX5_hasMet 67 = .ok (.aaload, 1) := by decide +kernel
theorem dX5_hasMet_68 : decode cX5_hasMet 68 = .ok (.invokevirtual 92, 3) := by decide +kernel
theorem dX5_hasMet_71 : decode cX5_hasMet 71 = .ok (.iconst 1, 1) := by decide +kernel
theorem dX5_hasMet_72 : decode cX5_hasMet 72 = .ok (.ireturn, 1) := by decide +kernel
theorem dX5_hasMet_73 : decode cX5_hasMet 73 = .ok (.iinc 3 1, 3) := by decide +kernel
theorem dX5_hasMet_76 : decode cX5_hasMet 76 = .ok (.goto (-74), 3) := by decide +kernel
theorem dX5_hasMet_79 : decode cX5_hasMet 79 = .ok (.iconst 0, 1) := by decide +kernel
theorem dX5_hasMet_80 : decode cX5_hasMet 80 = .ok (.ireturn, 1) := by decide +kernel
set_option maxRecDepth 20000 in
theorem ggX5_hasProved_X3_isWithin : GoodIn wsX5_hasProved wsX3_isWithin := goodIn_r _ [10, 11, 12, 13, 14, 29, 30, 31] (by decide +kernel) (by decide +kernel)
set_option maxRecDepth 20000 in
theorem gX5_hasProved_X3_isWithin : GoodIn wsX5_hasProved (wsV RX5 153 RX3 yX3_isWithin wsX3_isWithin) := goodIn_app (goodIn_of _ (by decide +kernel)) ggX5_hasProved_X3_isWithin
theorem dX5_hasProved_0 : decode cX5_hasProved 0 = .ok (.iconst 0, 1) := by decide +kernel
theorem dX5_hasProved_1 : decode cX5_hasProved 1 = .ok (.istore_n 3, 1) := by decide +kernel
theorem dX5_hasProved_2 : decode cX5_hasProved 2 = .ok (.iload_n 3, 1) := by decide +kernel
theorem dX5_hasProved_3 : decode cX5_hasProved 3 = .ok (.aload_n 0, 1) := by decide +kernel
theorem dX5_hasProved_4 : decode cX5_hasProved 4 = .ok (.getfield 38, 3) := by decide +kernel
theorem dX5_hasProved_7 : decode cX5_hasProved 7 = .ok (.getfield 148, 3) := by decide +kernel
theorem dX5_hasProved_10 : decode cX5_hasProved 10 = .ok (.if_icmp .ge 50, 3) := by decide +kernel
theorem dX5_hasProved_13 : decode cX5_hasProved 13 = .ok (.iload_n 3, 1) := by decide +kernel
theorem dX5_hasProved_14 : decode cX5_hasProved 14 = .ok (.sipush 128, 3) := by decide +kernel
theorem dX5_hasProved_17 : decode cX5_hasProved 17 = .ok (.if_icmp .ge 43, 3) := by decide +kernel
theorem dX5_hasProved_20 : decode cX5_hasProved 20 = .ok (.aload_n 0, 1) := by decide +kernel
theorem dX5_hasProved_21 : decode cX5_hasProved 21 = .ok (.getfield 38, 3) := by decide +kernel
theorem dX5_hasProved_24 : decode cX5_hasProved 24 = .ok (.getfield 159, 3) := by decide +kernel
theorem dX5_hasProved_27 : decode cX5_hasProved 27 = .ok (.iload_n 3, 1) := by decide +kernel
theorem dX5_hasProved_28 : decode cX5_hasProved 28 = .ok (.iaload, 1) := by decide +kernel
theorem dX5_hasProved_29 : decode cX5_hasProved 29 = .ok (.iload_n 2, 1) := by decide +kernel
theorem dX5_hasProved_30 : decode cX5_hasProved 30 = .ok (.if_icmp .ne 24, 3) := by decide +kernel
theorem dX5_hasProved_33 : decode cX5_hasProved 33 = .ok (.aload_n 0, 1) := by decide +kernel
theorem dX5_hasProved_34 : decode cX5_hasProved 34 = .ok (.getfield 38, 3) := by decide +kernel
theorem dX5_hasProved_37 : decode cX5_hasProved 37 = .ok (.getfield 149, 3) := by decide +kernel
theorem dX5_hasProved_40 : decode cX5_hasProved 40 = .ok (.iload_n 3, 1) := by decide +kernel
theorem dX5_hasProved_41 : decode cX5_hasProved 41 = .ok (.aaload, 1) := by decide +kernel
theorem dX5_hasProved_42 : decode cX5_hasProved 42 = .ok (.aload_n 1, 1) := by decide +kernel
theorem dX5_hasProved_43 : decode cX5_hasProved 43 = .ok (.getfield 45, 3) := by decide +kernel
theorem dX5_hasProved_46 : decode cX5_hasProved 46 = .ok (.invokevirtual 153, 3) := by decide +kernel
theorem dX5_hasProved_49 : decode cX5_hasProved 49 = .ok (.ifCond .eq 5, 3) := by decide +kernel
theorem dX5_hasProved_52 : decode cX5_hasProved 52 = .ok (.iconst 1, 1) := by decide +kernel
theorem dX5_hasProved_53 : decode cX5_hasProved 53 = .ok (.ireturn, 1) := by decide +kernel
theorem dX5_hasProved_54 : decode cX5_hasProved 54 = .ok (.iinc 3 1, 3) := by decide +kernel
theorem dX5_hasProved_57 : decode cX5_hasProved 57 = .ok (.goto (-55), 3) := by decide +kernel
theorem dX5_hasProved_60 : decode cX5_hasProved 60 = .ok (.iconst 0, 1) := by decide +kernel
theorem dX5_hasProved_61 : decode cX5_hasProved 61 = .ok (.ireturn, 1) := by decide +kernel
set_option maxRecDepth 20000 in
theorem ggX5_firstTrial_X5_spread : GoodIn wsX5_firstTrial wsX5_spread := goodIn_r _ [12, 2, 3, 13, 14, 15, 11, 16, 4, 5, 6, 17, 18, 19, 20, 21, 22, 23, 24, 25, 26, 27, 28, 29, 30, 31, 32, 33, 34, 35, 36, 37, 38, 39, 58, 59, 60, 61, 62, 63, 64, 65, 66, 67, 68, 69, 70, 71, 72, 73] (by decide +kernel) (by decide +kernel)
set_option maxRecDepth 20000 in
theorem gX5_firstTrial_X5_spread : GoodIn wsX5_firstTrial (wsV RX5 162 RX5 yX5_spread wsX5_spread) := goodIn_app (goodIn_of _ (by decide +kernel)) ggX5_firstTrial_X5_spread
set_option maxRecDepth 20000 in
theorem ggX5_firstTrial_X3_has : GoodIn wsX5_firstTrial wsX3_has := goodIn_r _ [24, 25, 26, 27, 71, 72, 73] (by decide +kernel) (by decide +kernel)
set_option maxRecDepth 20000 in
theorem gX5_firstTrial_X3_has : GoodIn wsX5_firstTrial (wsV RX5 157 RX3 yX3_has wsX3_has) := goodIn_app (goodIn_of _ (by decide +kernel)) ggX5_firstTrial_X3_has
set_option maxRecDepth 20000 in
theorem ggX5_firstTrial_X5_doubt : GoodIn wsX5_firstTrial wsX5_doubt := goodIn_r _ [43, 44, 2, 3, 5, 6, 1, 45, 46, 47, 23, 48, 32, 25, 26, 27, 28, 29, 30, 31, 20, 21, 22, 24, 33, 34, 35, 36, 37, 38, 39, 53, 54, 55, 56, 57, 58, 59, 60, 61, 62, 63, 64, 65, 66, 67, 68, 69, 70, 71, 72, 73] (by decide +kernel) (by decide +kernel)
set_option maxRecDepth 20000 in
theorem gX5_firstTrial_X5_doubt : GoodIn wsX5_firstTrial (wsV RX5 165 RX5 yX5_doubt wsX5_doubt) := goodIn_app (goodIn_of _ (by decide +kernel)) ggX5_firstTrial_X5_doubt
set_option maxRecDepth 20000 in
theorem ggX5_firstTrial_X3_fill : GoodIn wsX5_firstTrial wsX3_fill := goodIn_r _ [48, 32, 25, 26, 27, 71, 72, 73] (by decide +kernel) (by decide +kernel)
set_option maxRecDepth 20000 in
theorem gX5_firstTrial_X3_fill : GoodIn wsX5_firstTrial (wsV RX5 49 RX3 yX3_fill wsX3_fill) := goodIn_app (goodIn_of _ (by decide +kernel)) ggX5_firstTrial_X3_fill
set_option maxRecDepth 20000 in
theorem ggX5_firstTrial_X5_nextTrial : GoodIn wsX5_firstTrial wsX5_nextTrial := goodIn_r _ [52, 2, 3, 44, 1, 5, 20, 21, 22, 23, 24, 25, 26, 27, 33, 34, 35, 36, 37, 38, 39, 58, 59, 60, 61, 62, 63, 64, 65, 66, 67, 68, 69, 70, 53, 54, 55, 56, 57, 71, 72, 73] (by decide +kernel) (by decide +kernel)
set_option maxRecDepth 20000 in
theorem gX5_firstTrial_X5_nextTrial : GoodIn wsX5_firstTrial (wsV RX5 127 RX5 yX5_nextTrial wsX5_nextTrial) := goodIn_app (goodIn_of _ (by decide +kernel)) ggX5_firstTrial_X5_nextTrial
theorem dX5_firstTrial_0 : decode cX5_firstTrial 0 = .ok (.aload_n 1, 1) := by decide +kernel
theorem dX5_firstTrial_1 : decode cX5_firstTrial 1 = .ok (.getfield 45, 3) := by decide +kernel
theorem dX5_firstTrial_4 : decode cX5_firstTrial 4 = .ok (.astore_n 3, 1) := by decide +kernel
theorem dX5_firstTrial_5 : decode cX5_firstTrial 5 = .ok (.aload_n 0, 1) := by decide +kernel
theorem dX5_firstTrial_6 : decode cX5_firstTrial 6 = .ok (.aload_n 3, 1) := by decide +kernel
theorem dX5_firstTrial_7 : decode cX5_firstTrial 7 = .ok (.invokevirtual 162, 3) := by decide +kernel
theorem dX5_firstTrial_10 : decode cX5_firstTrial 10 = .ok (.aload_n 3, 1) := by decide +kernel
theorem dX5_firstTrial_11 : decode cX5_firstTrial 11 = .ok (.iconst 5, 1) := by decide +kernel
theorem dX5_firstTrial_12 : decode cX5_firstTrial 12 = .ok (.invokevirtual 157, 3) := by decide +kernel
theorem dX5_firstTrial_15 : decode cX5_firstTrial 15 = .ok (.ifCond .ne 11, 3) := by decide +kernel
theorem dX5_firstTrial_18 : decode cX5_firstTrial 18 = .ok (.aload_n 3, 1) := by decide +kernel
theorem dX5_firstTrial_19 : decode cX5_firstTrial 19 = .ok (.iload_n 2, 1) := by decide +kernel
theorem dX5_firstTrial_20 : decode cX5_firstTrial 20 = .ok (.invokevirtual 157, 3) := by decide +kernel
theorem dX5_firstTrial_23 : decode cX5_firstTrial 23 = .ok (.ifCond .eq 5, 3) := by decide +kernel
theorem dX5_firstTrial_26 : decode cX5_firstTrial 26 = .ok (.iconst (-1), 1) := by decide +kernel
theorem dX5_firstTrial_27 : decode cX5_firstTrial 27 = .ok (.ireturn, 1) := by decide +kernel
theorem dX5_firstTrial_28 : decode cX5_firstTrial 28 = .ok (.bipush 6, 2) := by decide +kernel
theorem dX5_firstTrial_30 : decode cX5_firstTrial 30 = .ok (.istore 4, 2) := by decide +kernel
theorem dX5_firstTrial_32 : decode cX5_firstTrial 32 = .ok (.iload 4, 2) := by decide +kernel
theorem dX5_firstTrial_34 : decode cX5_firstTrial 34 = .ok (.aload_n 0, 1) := by decide +kernel
theorem dX5_firstTrial_35 : decode cX5_firstTrial 35 = .ok (.getfield 24, 3) := by decide +kernel
theorem dX5_firstTrial_38 : decode cX5_firstTrial 38 = .ok (.getfield 141, 3) := by decide +kernel
theorem dX5_firstTrial_41 : decode cX5_firstTrial 41 = .ok (.if_icmp .ge 70, 3) := by decide +kernel
theorem dX5_firstTrial_44 : decode cX5_firstTrial 44 = .ok (.aload_n 0, 1) := by decide +kernel
theorem dX5_firstTrial_45 : decode cX5_firstTrial 45 = .ok (.getfield 24, 3) := by decide +kernel
theorem dX5_firstTrial_48 : decode cX5_firstTrial 48 = .ok (.getfield 100, 3) := by decide +kernel
theorem dX5_firstTrial_51 : decode cX5_firstTrial 51 = .ok (.iload 4, 2) := by decide +kernel
theorem dX5_firstTrial_53 : decode cX5_firstTrial 53 = .ok (.iaload, 1) := by decide +kernel
theorem dX5_firstTrial_54 : decode cX5_firstTrial 54 = .ok (.bipush 8, 2) := by decide +kernel
theorem dX5_firstTrial_56 : decode cX5_firstTrial 56 = .ok (.if_icmp .ne 49, 3) := by decide +kernel
theorem dX5_firstTrial_59 : decode cX5_firstTrial 59 = .ok (.aload_n 3, 1) := by decide +kernel
theorem dX5_firstTrial_60 : decode cX5_firstTrial 60 = .ok (.iload 4, 2) := by decide +kernel
theorem dX5_firstTrial_62 : decode cX5_firstTrial 62 = .ok (.invokevirtual 157, 3) := by decide +kernel
theorem dX5_firstTrial_65 : decode cX5_firstTrial 65 = .ok (.ifCond .eq 40, 3) := by decide +kernel
theorem dX5_firstTrial_68 : decode cX5_firstTrial 68 = .ok (.aload_n 3, 1) := by decide +kernel
theorem dX5_firstTrial_69 : decode cX5_firstTrial 69 = .ok (.aload_n 0, 1) := by decide +kernel
theorem dX5_firstTrial_70 : decode cX5_firstTrial 70 = .ok (.getfield 24, 3) := by decide +kernel
theorem dX5_firstTrial_73 : decode cX5_firstTrial 73 = .ok (.getfield 108, 3) := by decide +kernel
theorem dX5_firstTrial_76 : decode cX5_firstTrial 76 = .ok (.iload 4, 2) := by decide +kernel
theorem dX5_firstTrial_78 : decode cX5_firstTrial 78 = .ok (.iaload, 1) := by decide +kernel
theorem dX5_firstTrial_79 : decode cX5_firstTrial 79 = .ok (.invokevirtual 157, 3) := by decide +kernel
theorem dX5_firstTrial_82 : decode cX5_firstTrial 82 = .ok (.ifCond .ne 23, 3) := by decide +kernel
theorem dX5_firstTrial_85 : decode cX5_firstTrial 85 = .ok (.aload_n 3, 1) := by decide +kernel
theorem dX5_firstTrial_86 : decode cX5_firstTrial 86 = .ok (.aload_n 0, 1) := by decide +kernel
theorem dX5_firstTrial_87 : decode cX5_firstTrial 87 = .ok (.getfield 24, 3) := by decide +kernel
theorem dX5_firstTrial_90 : decode cX5_firstTrial 90 = .ok (.getfield 111, 3) := by decide +kernel
theorem dX5_firstTrial_93 : decode cX5_firstTrial 93 = .ok (.iload 4, 2) := by decide +kernel
theorem dX5_firstTrial_95 : decode cX5_firstTrial 95 = .ok (.iaload, 1) := by decide +kernel
theorem dX5_firstTrial_96 : decode cX5_firstTrial 96 = .ok (.invokevirtual 157, 3) := by decide +kernel
theorem dX5_firstTrial_99 : decode cX5_firstTrial 99 = .ok (.ifCond .ne 6, 3) := by decide +kernel
theorem dX5_firstTrial_102 : decode cX5_firstTrial 102 = .ok (.iload 4, 2) := by decide +kernel
theorem dX5_firstTrial_104 : decode cX5_firstTrial 104 = .ok (.ireturn, 1) := by decide +kernel
theorem dX5_firstTrial_105 : decode cX5_firstTrial 105 = .ok (.iinc 4 1, 3) := by decide +kernel
theorem dX5_firstTrial_108 : decode cX5_firstTrial 108 = .ok (.goto (-76), 3) := by decide +kernel
theorem dX5_firstTrial_111 : decode cX5_firstTrial 111 = .ok (.aload_n 0, 1) := by decide +kernel
theorem dX5_firstTrial_112 : decode cX5_firstTrial 112 = .ok (.aload_n 1, 1) := by decide +kernel
theorem dX5_firstTrial_113 : decode cX5_firstTrial 113 = .ok (.iload_n 2, 1) := by decide +kernel
theorem dX5_firstTrial_114 : decode cX5_firstTrial 114 = .ok (.invokevirtual 165, 3) := by decide +kernel
theorem dX5_firstTrial_117 : decode cX5_firstTrial 117 = .ok (.aload_n 1, 1) := by decide +kernel
theorem dX5_firstTrial_118 : decode cX5_firstTrial 118 = .ok (.getfield 114, 3) := by decide +kernel
theorem dX5_firstTrial_121 : decode cX5_firstTrial 121 = .ok (.iconst 1, 1) := by decide +kernel
theorem dX5_firstTrial_122 : decode cX5_firstTrial 122 = .ok (.invokevirtual 49, 3) := by decide +kernel
theorem dX5_firstTrial_125 : decode cX5_firstTrial 125 = .ok (.aload_n 0, 1) := by decide +kernel
theorem dX5_firstTrial_126 : decode cX5_firstTrial 126 = .ok (.aload_n 1, 1) := by decide +kernel
theorem dX5_firstTrial_127 : decode cX5_firstTrial 127 = .ok (.invokevirtual 127, 3) := by decide +kernel
theorem dX5_firstTrial_130 : decode cX5_firstTrial 130 = .ok (.ireturn, 1) := by decide +kernel
set_option maxRecDepth 20000 in
theorem ggX5_nextTrial_X3_has : GoodIn wsX5_nextTrial wsX3_has := goodIn_r _ [10, 11, 12, 13, 39, 40, 41] (by decide +kernel) (by decide +kernel)
set_option maxRecDepth 20000 in
theorem gX5_nextTrial_X3_has : GoodIn wsX5_nextTrial (wsV RX5 157 RX3 yX3_has wsX3_has) := goodIn_app (goodIn_of _ (by decide +kernel)) ggX5_nextTrial_X3_has
set_option maxRecDepth 20000 in
theorem ggX5_nextTrial_X4_isIf : GoodIn wsX5_nextTrial wsX4_isIf := goodIn_r _ [18, 19, 20, 26, 27, 28, 29, 30, 31, 32, 33] (by decide +kernel) (by decide +kernel)
set_option maxRecDepth 20000 in
theorem gX5_nextTrial_X4_isIf : GoodIn wsX5_nextTrial (wsV RX5 144 RX4 yX4_isIf wsX4_isIf) := goodIn_app (goodIn_of _ (by decide +kernel)) ggX5_nextTrial_X4_isIf
theorem dX5_nextTrial_0 : decode cX5_nextTrial 0 = .ok (.aload_n 0, 1) := by decide +kernel
theorem dX5_nextTrial_1 : decode cX5_nextTrial 1 = .ok (.getfield 24, 3) := by decide +kernel
theorem dX5_nextTrial_4 : decode cX5_nextTrial 4 = .ok (.getfield 141, 3) := by decide +kernel
theorem dX5_nextTrial_7 : decode cX5_nextTrial 7 = .ok (.iconst 1, 1) := by decide +kernel
theorem dX5_nextTrial_8 : decode cX5_nextTrial 8 = .ok (.isub, 1) := by decide +kernel
theorem dX5_nextTrial_9 : decode cX5_nextTrial 9 = .ok (.istore_n 2, 1) := by decide +kernel
theorem dX5_nextTrial_10 : decode cX5_nextTrial 10 = .ok (.iload_n 2, 1) := by decide +kernel
theorem dX5_nextTrial_11 : decode cX5_nextTrial 11 = .ok (.bipush 6, 2) := by decide +kernel
theorem dX5_nextTrial_13 : decode cX5_nextTrial 13 = .ok (.if_icmp .lt 63, 3) := by decide +kernel
theorem dX5_nextTrial_16 : decode cX5_nextTrial 16 = .ok (.aload_n 1, 1) := by decide +kernel
theorem dX5_nextTrial_17 : decode cX5_nextTrial 17 = .ok (.getfield 120, 3) := by decide +kernel
theorem dX5_nextTrial_20 : decode cX5_nextTrial 20 = .ok (.iload_n 2, 1) := by decide +kernel
theorem dX5_nextTrial_21 : decode cX5_nextTrial 21 = .ok (.invokevirtual 157, 3) := by decide +kernel
theorem dX5_nextTrial_24 : decode cX5_nextTrial 24 = .ok (.ifCond .eq 46, 3) := by decide +kernel
theorem dX5_nextTrial_27 : decode cX5_nextTrial 27 = .ok (.aload_n 0, 1) := by decide +kernel
theorem dX5_nextTrial_28 : decode cX5_nextTrial 28 = .ok (.getfield 24, 3) := by decide +kernel
theorem dX5_nextTrial_31 : decode cX5_nextTrial 31 = .ok (.iload_n 2, 1) := by decide +kernel
theorem dX5_nextTrial_32 : decode cX5_nextTrial 32 = .ok (.invokevirtual 144, 3) := by decide +kernel
theorem dX5_nextTrial_35 : decode cX5_nextTrial 35 = .ok (.ifCond .eq 35, 3) := by decide +kernel
theorem dX5_nextTrial_38 : decode cX5_nextTrial 38 = .ok (.aload_n 1, 1) := by decide +kernel
theorem dX5_nextTrial_39 : decode cX5_nextTrial 39 = .ok (.getfield 45, 3) := by decide +kernel
theorem dX5_nextTrial_42 : decode cX5_nextTrial 42 = .ok (.iload_n 2, 1) := by decide +kernel
theorem dX5_nextTrial_43 : decode cX5_nextTrial 43 = .ok (.invokevirtual 157, 3) := by decide +kernel
theorem dX5_nextTrial_46 : decode cX5_nextTrial 46 = .ok (.ifCond .ne 24, 3) := by decide +kernel
theorem dX5_nextTrial_49 : decode cX5_nextTrial 49 = .ok (.aload_n 1, 1) := by decide +kernel
theorem dX5_nextTrial_50 : decode cX5_nextTrial 50 = .ok (.getfield 45, 3) := by decide +kernel
theorem dX5_nextTrial_53 : decode cX5_nextTrial 53 = .ok (.aload_n 0, 1) := by decide +kernel
theorem dX5_nextTrial_54 : decode cX5_nextTrial 54 = .ok (.getfield 24, 3) := by decide +kernel
theorem dX5_nextTrial_57 : decode cX5_nextTrial 57 = .ok (.getfield 108, 3) := by decide +kernel
theorem dX5_nextTrial_60 : decode cX5_nextTrial 60 = .ok (.iload_n 2, 1) := by decide +kernel
theorem dX5_nextTrial_61 : decode cX5_nextTrial 61 = .ok (.iaload, 1) := by decide +kernel
theorem dX5_nextTrial_62 : decode cX5_nextTrial 62 = .ok (.invokevirtual 157, 3) := by decide +kernel
theorem dX5_nextTrial_65 : decode cX5_nextTrial 65 = .ok (.ifCond .ne 5, 3) := by decide +kernel
theorem dX5_nextTrial_68 : decode cX5_nextTrial 68 = .ok (.iload_n 2, 1) := by decide +kernel
theorem dX5_nextTrial_69 : decode cX5_nextTrial 69 = .ok (.ireturn, 1) := by decide +kernel
theorem dX5_nextTrial_70 : decode cX5_nextTrial 70 = .ok (.iinc 2 (-1), 3) := by decide +kernel
theorem dX5_nextTrial_73 : decode cX5_nextTrial 73 = .ok (.goto (-63), 3) := by decide +kernel
theorem dX5_nextTrial_76 : decode cX5_nextTrial 76 = .ok (.bipush (-2), 2) := by decide +kernel
theorem dX5_nextTrial_78 : decode cX5_nextTrial 78 = .ok (.ireturn, 1) := by decide +kernel
set_option maxRecDepth 20000 in
theorem ggX5_spread_X5_grows : GoodIn wsX5_spread wsX5_grows := goodIn_r _ [7, 1, 8, 9, 10, 11, 12, 13, 14, 15, 16, 17, 18, 19, 20, 21, 22, 23, 24, 25, 26, 27, 28, 29, 30, 31, 32, 33, 34, 35, 36, 37, 38, 39, 40, 41, 42, 43, 44, 45, 46, 47, 48, 49] (by decide +kernel) (by decide +kernel)
set_option maxRecDepth 20000 in
theorem gX5_spread_X5_grows : GoodIn wsX5_spread (wsV RX5 168 RX5 yX5_grows wsX5_grows) := goodIn_app (goodIn_of _ (by decide +kernel)) ggX5_spread_X5_grows
theorem dX5_spread_0 : decode cX5_spread 0 = .ok (.iconst 1, 1) := by decide +kernel
theorem dX5_spread_1 : decode cX5_spread 1 = .ok (.istore_n 2, 1) := by decide +kernel
theorem dX5_spread_2 : decode cX5_spread 2 = .ok (.iconst 0, 1) := by decide +kernel
theorem dX5_spread_3 : decode cX5_spread 3 = .ok (.istore_n 3, 1) := by decide +kernel
theorem dX5_spread_4 : decode cX5_spread 4 = .ok (.iload_n 2, 1) := by decide +kernel
theorem dX5_spread_5 : decode cX5_spread 5 = .ok (.ifCond .eq 84, 3) := by decide +kernel
theorem dX5_spread_8 : decode cX5_spread 8 = .ok (.iload_n 3, 1) := by decide +kernel
theorem dX5_spread_9 : decode cX5_spread 9 = .ok (.sipush 151, 3) := by decide +kernel
theorem dX5_spread_12 : decode cX5_spread 12 = .ok (.if_icmp .gt 77, 3) := by decide +kernel
theorem dX5_spread_15 : decode cX5_spread 15 = .ok (.iconst 0, 1) := by decide +kernel
theorem dX5_spread_16 : decode cX5_spread 16 = .ok (.istore_n 2, 1) := by decide +kernel
theorem dX5_spread_17 : decode cX5_spread 17 = .ok (.bipush 6, 2) := by decide +kernel
theorem dX5_spread_19 : decode cX5_spread 19 = .ok (.istore 4, 2) := by decide +kernel
theorem dX5_spread_21 : decode cX5_spread 21 = .ok (.iload 4, 2) := by decide +kernel
theorem dX5_spread_23 : decode cX5_spread 23 = .ok (.aload_n 0, 1) := by decide +kernel
theorem dX5_spread_24 : decode cX5_spread 24 = .ok (.getfield 24, 3) := by decide +kernel
theorem dX5_spread_27 : decode cX5_spread 27 = .ok (.getfield 141, 3) := by decide +kernel
theorem dX5_spread_30 : decode cX5_spread 30 = .ok (.if_icmp .ge 19, 3) := by decide +kernel
theorem dX5_spread_33 : decode cX5_spread 33 = .ok (.iload_n 2, 1) := by decide +kernel
theorem dX5_spread_34 : decode cX5_spread 34 = .ok (.aload_n 0, 1) := by decide +kernel
theorem dX5_spread_35 : decode cX5_spread 35 = .ok (.aload_n 1, 1) := by decide +kernel
theorem dX5_spread_36 : decode cX5_spread 36 = .ok (.iload 4, 2) := by decide +kernel
theorem dX5_spread_38 : decode cX5_spread 38 = .ok (.invokevirtual 168, 3) := by decide +kernel
theorem dX5_spread_41 : decode cX5_spread 41 = .ok (.ior, 1) := by decide +kernel
theorem dX5_spread_42 : decode cX5_spread 42 = .ok (.istore_n 2, 1) := by decide +kernel
theorem dX5_spread_43 : decode cX5_spread 43 = .ok (.iinc 4 1, 3) := by decide +kernel
theorem dX5_spread_46 : decode cX5_spread 46 = .ok (.goto (-25), 3) := by decide +kernel
theorem dX5_spread_49 : decode cX5_spread 49 = .ok (.aload_n 0, 1) := by decide +kernel
theorem dX5_spread_50 : decode cX5_spread 50 = .ok (.getfield 24, 3) := by decide +kernel
theorem dX5_spread_53 : decode cX5_spread 53 = .ok (.getfield 141, 3) := by decide +kernel
theorem dX5_spread_56 : decode cX5_spread 56 = .ok (.iconst 1, 1) := by decide +kernel
theorem dX5_spread_57 : decode cX5_spread 57 = .ok (.isub, 1) := by decide +kernel
theorem dX5_spread_58 : decode cX5_spread 58 = .ok (.istore 4, 2) := by decide +kernel
theorem dX5_spread_60 : decode cX5_spread 60 = .ok (.iload 4, 2) := by decide +kernel
theorem dX5_spread_62 : decode cX5_spread 62 = .ok (.bipush 6, 2) := by decide +kernel
theorem dX5_spread_64 : decode cX5_spread 64 = .ok (.if_icmp .lt 19, 3) := by decide +kernel
theorem dX5_spread_67 : decode cX5_spread 67 = .ok (.iload_n 2, 1) := by decide +kernel
theorem dX5_spread_68 : decode cX5_spread 68 = .ok (.aload_n 0, 1) := by decide +kernel
theorem dX5_spread_69 : decode cX5_spread 69 = .ok (.aload_n 1, 1) := by decide +kernel
theorem dX5_spread_70 : decode cX5_spread 70 = .ok (.iload 4, 2) := by decide +kernel
theorem dX5_spread_72 : decode cX5_spread 72 = .ok (.invokevirtual 168, 3) := by decide +kernel
theorem dX5_spread_75 : decode cX5_spread 75 = .ok (.ior, 1) := by decide +kernel
theorem dX5_spread_76 : decode cX5_spread 76 = .ok (.istore_n 2, 1) := by decide +kernel
theorem dX5_spread_77 : decode cX5_spread 77 = .ok (.iinc 4 (-1), 3) := by decide +kernel
theorem dX5_spread_80 : decode cX5_spread 80 = .ok (.goto (-20), 3) := by decide +kernel
theorem dX5_spread_83 : decode cX5_spread 83 = .ok (.iinc 3 1, 3) := by decide +kernel
theorem dX5_spread_86 : decode cX5_spread 86 = .ok (.goto (-82), 3) := by decide +kernel
theorem dX5_spread_89 : decode cX5_spread 89 = .ok (.return_, 1) := by decide +kernel
set_option maxRecDepth 20000 in
theorem ggX5_grows_X9_at : GoodIn wsX5_grows wsX9_at := goodIn_r _ [7] (by decide +kernel) (by decide +kernel)
set_option maxRecDepth 20000 in
theorem gX5_grows_X9_at_n104 : GoodIn wsX5_grows (wsX9_at) := ggX5_grows_X9_at
set_option maxRecDepth 20000 in
theorem ggX5_grows_X3_has : GoodIn wsX5_grows wsX3_has := goodIn_r _ [12, 13, 14, 15, 41, 42, 43] (by decide +kernel) (by decide +kernel)
set_option maxRecDepth 20000 in
theorem gX5_grows_X3_has : GoodIn wsX5_grows (wsV RX5 157 RX3 yX3_has wsX3_has) := goodIn_app (goodIn_of _ (by decide +kernel)) ggX5_grows_X3_has
set_option maxRecDepth 20000 in
theorem ggX5_grows_X3_set : GoodIn wsX5_grows wsX3_set := goodIn_r _ [19, 13, 20, 14, 15, 41, 42, 43] (by decide +kernel) (by decide +kernel)
set_option maxRecDepth 20000 in
theorem gX5_grows_X3_set : GoodIn wsX5_grows (wsV RX5 123 RX3 yX3_set wsX3_set) := goodIn_app (goodIn_of _ (by decide +kernel)) ggX5_grows_X3_set
set_option maxRecDepth 20000 in
theorem ggX5_grows_X4_isIf : GoodIn wsX5_grows wsX4_isIf := goodIn_r _ [25, 26, 27, 33, 34, 35, 36, 37, 38, 39, 40] (by decide +kernel) (by decide +kernel)
set_option maxRecDepth 20000 in
theorem gX5_grows_X4_isIf : GoodIn wsX5_grows (wsV RX5 144 RX4 yX4_isIf wsX4_isIf) := goodIn_app (goodIn_of _ (by decide +kernel)) ggX5_grows_X4_isIf
theorem dX5_grows_0 : decode cX5_grows 0 = .ok (.aload_n 0, 1) := by decide +kernel
theorem dX5_grows_1 : decode cX5_grows 1 = .ok (.getfield 24, 3) := by decide +kernel
theorem dX5_grows_4 : decode cX5_grows 4 = .ok (.getfield 100, 3) := by decide +kernel
theorem dX5_grows_7 : decode cX5_grows 7 = .ok (.iload_n 2, 1) := by decide +kernel
theorem dX5_grows_8 : decode cX5_grows 8 = .ok (.invokestatic 104, 3) := by decide +kernel
theorem dX5_grows_11 : decode cX5_grows 11 = .ok (.istore_n 3, 1) := by decide +kernel
theorem dX5_grows_12 : decode cX5_grows 12 = .ok (.aload_n 0, 1) := by decide +kernel
theorem dX5_grows_13 : decode cX5_grows 13 = .ok (.getfield 24, 3) := by decide +kernel
theorem dX5_grows_16 : decode cX5_grows 16 = .ok (.getfield 108, 3) := by decide +kernel
theorem dX5_grows_19 : decode cX5_grows 19 = .ok (.iload_n 2, 1) := by decide +kernel
theorem dX5_grows_20 : decode cX5_grows 20 = .ok (.invokestatic 104, 3) := by decide +kernel
theorem dX5_grows_23 : decode cX5_grows 23 = .ok (.istore 4, 2) := by decide +kernel
theorem dX5_grows_25 : decode cX5_grows 25 = .ok (.aload_n 0, 1) := by decide +kernel
theorem dX5_grows_26 : decode cX5_grows 26 = .ok (.getfield 24, 3) := by decide +kernel
theorem dX5_grows_29 : decode cX5_grows 29 = .ok (.getfield 111, 3) := by decide +kernel
theorem dX5_grows_32 : decode cX5_grows 32 = .ok (.iload_n 2, 1) := by decide +kernel
theorem dX5_grows_33 : decode cX5_grows 33 = .ok (.invokestatic 104, 3) := by decide +kernel
theorem dX5_grows_36 : decode cX5_grows 36 = .ok (.istore 5, 2) := by decide +kernel
theorem dX5_grows_38 : decode cX5_grows 38 = .ok (.aload_n 1, 1) := by decide +kernel
theorem dX5_grows_39 : decode cX5_grows 39 = .ok (.iload 4, 2) := by decide +kernel
theorem dX5_grows_41 : decode cX5_grows 41 = .ok (.invokevirtual 157, 3) := by decide +kernel
theorem dX5_grows_44 : decode cX5_grows 44 = .ok (.istore 6, 2) := by decide +kernel
theorem dX5_grows_46 : decode cX5_grows 46 = .ok (.aload_n 1, 1) := by decide +kernel
theorem dX5_grows_47 : decode cX5_grows 47 = .ok (.iload 5, 2) := by decide +kernel
theorem dX5_grows_49 : decode cX5_grows 49 = .ok (.invokevirtual 157, 3) := by decide +kernel
theorem dX5_grows_52 : decode cX5_grows 52 = .ok (.istore 7, 2) := by decide +kernel
theorem dX5_grows_54 : decode cX5_grows 54 = .ok (.aload_n 1, 1) := by decide +kernel
theorem dX5_grows_55 : decode cX5_grows 55 = .ok (.iload_n 2, 1) := by decide +kernel
theorem dX5_grows_56 : decode cX5_grows 56 = .ok (.invokevirtual 157, 3) := by decide +kernel
theorem dX5_grows_59 : decode cX5_grows 59 = .ok (.ifCond .ne 65, 3) := by decide +kernel
theorem dX5_grows_62 : decode cX5_grows 62 = .ok (.iload_n 3, 1) := by decide +kernel
theorem dX5_grows_63 : decode cX5_grows 63 = .ok (.bipush 7, 2) := by decide +kernel
theorem dX5_grows_65 : decode cX5_grows 65 = .ok (.if_icmp .ne 21, 3) := by decide +kernel
theorem dX5_grows_68 : decode cX5_grows 68 = .ok (.iload 6, 2) := by decide +kernel
theorem dX5_grows_70 : decode cX5_grows 70 = .ok (.ifCond .eq 12, 3) := by decide +kernel
theorem dX5_grows_73 : decode cX5_grows 73 = .ok (.iload 7, 2) := by decide +kernel
theorem dX5_grows_75 : decode cX5_grows 75 = .ok (.ifCond .eq 7, 3) := by decide +kernel
theorem dX5_grows_78 : decode cX5_grows 78 = .ok (.iconst 1, 1) := by decide +kernel
theorem dX5_grows_79 : decode cX5_grows 79 = .ok (.goto 33, 3) := by decide +kernel
theorem dX5_grows_82 : decode cX5_grows 82 = .ok (.iconst 0, 1) := by decide +kernel
theorem dX5_grows_83 : decode cX5_grows 83 = .ok (.goto 29, 3) := by decide +kernel
theorem dX5_grows_86 : decode cX5_grows 86 = .ok (.iload_n 3, 1) := by decide +kernel
theorem dX5_grows_87 : decode cX5_grows 87 = .ok (.bipush 8, 2) := by decide +kernel
theorem dX5_grows_89 : decode cX5_grows 89 = .ok (.if_icmp .ne 21, 3) := by decide +kernel
theorem dX5_grows_92 : decode cX5_grows 92 = .ok (.iload 6, 2) := by decide +kernel
theorem dX5_grows_94 : decode cX5_grows 94 = .ok (.ifCond .ne 8, 3) := by decide +kernel
theorem dX5_grows_97 : decode cX5_grows 97 = .ok (.iload 7, 2) := by decide +kernel
theorem dX5_grows_99 : decode cX5_grows 99 = .ok (.ifCond .eq 7, 3) := by decide +kernel
theorem dX5_grows_102 : decode cX5_grows 102 = .ok (.iconst 1, 1) := by decide +kernel
theorem dX5_grows_103 : decode cX5_grows 103 = .ok (.goto 9, 3) := by decide +kernel
theorem dX5_grows_106 : decode cX5_grows 106 = .ok (.iconst 0, 1) := by decide +kernel
theorem dX5_grows_107 : decode cX5_grows 107 = .ok (.goto 5, 3) := by decide +kernel
theorem dX5_grows_110 : decode cX5_grows 110 = .ok (.iload 7, 2) := by decide +kernel
theorem dX5_grows_112 : decode cX5_grows 112 = .ok (.istore 8, 2) := by decide +kernel
theorem dX5_grows_114 : decode cX5_grows 114 = .ok (.aload_n 1, 1) := by decide +kernel
theorem dX5_grows_115 : decode cX5_grows 115 = .ok (.iload_n 2, 1) := by decide +kernel
theorem dX5_grows_116 : decode cX5_grows 116 = .ok (.iload 8, 2) := by decide +kernel
theorem dX5_grows_118 : decode cX5_grows 118 = .ok (.invokevirtual 123, 3) := by decide +kernel
theorem dX5_grows_121 : decode cX5_grows 121 = .ok (.iload 8, 2) := by decide +kernel
theorem dX5_grows_123 : decode cX5_grows 123 = .ok (.ireturn, 1) := by decide +kernel
theorem dX5_grows_124 : decode cX5_grows 124 = .ok (.iload_n 3, 1) := by decide +kernel
theorem dX5_grows_125 : decode cX5_grows 125 = .ok (.bipush 7, 2) := by decide +kernel
theorem dX5_grows_127 : decode cX5_grows 127 = .ok (.if_icmp .ne 29, 3) := by decide +kernel
theorem dX5_grows_130 : decode cX5_grows 130 = .ok (.iload 6, 2) := by decide +kernel
theorem dX5_grows_132 : decode cX5_grows 132 = .ok (.ifCond .eq 8, 3) := by decide +kernel
theorem dX5_grows_135 : decode cX5_grows 135 = .ok (.iload 7, 2) := by decide +kernel
theorem dX5_grows_137 : decode cX5_grows 137 = .ok (.ifCond .ne 19, 3) := by decide +kernel
theorem dX5_grows_140 : decode cX5_grows 140 = .ok (.aload_n 1, 1) := by decide +kernel
theorem dX5_grows_141 : decode cX5_grows 141 = .ok (.iload 4, 2) := by decide +kernel
theorem dX5_grows_143 : decode cX5_grows 143 = .ok (.iconst 1, 1) := by decide +kernel
theorem dX5_grows_144 : decode cX5_grows 144 = .ok (.invokevirtual 123, 3) := by decide +kernel
theorem dX5_grows_147 : decode cX5_grows 147 = .ok (.aload_n 1, 1) := by decide +kernel
theorem dX5_grows_148 : decode cX5_grows 148 = .ok (.iload 5, 2) := by decide +kernel
theorem dX5_grows_150 : decode cX5_grows 150 = .ok (.iconst 1, 1) := by decide +kernel
theorem dX5_grows_151 : decode cX5_grows 151 = .ok (.invokevirtual 123, 3) := by decide +kernel
theorem dX5_grows_154 : decode cX5_grows 154 = .ok (.iconst 1, 1) := by decide +kernel
theorem dX5_grows_155 : decode cX5_grows 155 = .ok (.ireturn, 1) := by decide +kernel
theorem dX5_grows_156 : decode cX5_grows 156 = .ok (.aload_n 0, 1) := by decide +kernel
theorem dX5_grows_157 : decode cX5_grows 157 = .ok (.getfield 24, 3) := by decide +kernel
theorem dX5_grows_160 : decode cX5_grows 160 = .ok (.iload_n 2, 1) := by decide +kernel
theorem dX5_grows_161 : decode cX5_grows 161 = .ok (.invokevirtual 144, 3) := by decide +kernel
theorem dX5_grows_164 : decode cX5_grows 164 = .ok (.ifCond .eq 22, 3) := by decide +kernel
theorem dX5_grows_167 : decode cX5_grows 167 = .ok (.iload 6, 2) := by decide +kernel
theorem dX5_grows_169 : decode cX5_grows 169 = .ok (.ifCond .eq 17, 3) := by decide +kernel
theorem dX5_grows_172 : decode cX5_grows 172 = .ok (.iload 7, 2) := by decide +kernel
theorem dX5_grows_174 : decode cX5_grows 174 = .ok (.ifCond .ne 12, 3) := by decide +kernel
theorem dX5_grows_177 : decode cX5_grows 177 = .ok (.aload_n 1, 1) := by decide +kernel
theorem dX5_grows_178 : decode cX5_grows 178 = .ok (.iload 5, 2) := by decide +kernel
theorem dX5_grows_180 : decode cX5_grows 180 = .ok (.iconst 1, 1) := by decide +kernel
theorem dX5_grows_181 : decode cX5_grows 181 = .ok (.invokevirtual 123, 3) := by decide +kernel
theorem dX5_grows_184 : decode cX5_grows 184 = .ok (.iconst 1, 1) := by decide +kernel
theorem dX5_grows_185 : decode cX5_grows 185 = .ok (.ireturn, 1) := by decide +kernel
theorem dX5_grows_186 : decode cX5_grows 186 = .ok (.iconst 0, 1) := by decide +kernel
theorem dX5_grows_187 : decode cX5_grows 187 = .ok (.ireturn, 1) := by decide +kernel
set_option maxRecDepth 20000 in
theorem ggX5_doubt_X3_fill : GoodIn wsX5_doubt wsX3_fill := goodIn_r _ [11, 12, 13, 14, 15, 49, 50, 51] (by decide +kernel) (by decide +kernel)
set_option maxRecDepth 20000 in
theorem gX5_doubt_X3_fill : GoodIn wsX5_doubt (wsV RX5 49 RX3 yX3_fill wsX3_fill) := goodIn_app (goodIn_of _ (by decide +kernel)) ggX5_doubt_X3_fill
set_option maxRecDepth 20000 in
theorem ggX5_doubt_X3_set : GoodIn wsX5_doubt wsX3_set := goodIn_r _ [19, 13, 12, 14, 15, 49, 50, 51] (by decide +kernel) (by decide +kernel)
set_option maxRecDepth 20000 in
theorem gX5_doubt_X3_set : GoodIn wsX5_doubt (wsV RX5 123 RX3 yX3_set wsX3_set) := goodIn_app (goodIn_of _ (by decide +kernel)) ggX5_doubt_X3_set
set_option maxRecDepth 20000 in
theorem ggX5_doubt_X3_has : GoodIn wsX5_doubt wsX3_has := goodIn_r _ [23, 13, 14, 15, 49, 50, 51] (by decide +kernel) (by decide +kernel)
set_option maxRecDepth 20000 in
theorem gX5_doubt_X3_has : GoodIn wsX5_doubt (wsV RX5 157 RX3 yX3_has wsX3_has) := goodIn_app (goodIn_of _ (by decide +kernel)) ggX5_doubt_X3_has
set_option maxRecDepth 20000 in
theorem ggX5_doubt_X4_isIf : GoodIn wsX5_doubt wsX4_isIf := goodIn_r _ [28, 29, 30, 41, 42, 43, 44, 45, 46, 47, 48] (by decide +kernel) (by decide +kernel)
set_option maxRecDepth 20000 in
theorem gX5_doubt_X4_isIf : GoodIn wsX5_doubt (wsV RX5 144 RX4 yX4_isIf wsX4_isIf) := goodIn_app (goodIn_of _ (by decide +kernel)) ggX5_doubt_X4_isIf
theorem dX5_doubt_0 : decode cX5_doubt 0 = .ok (.aload_n 1, 1) := by decide +kernel
theorem dX5_doubt_1 : decode cX5_doubt 1 = .ok (.getfield 120, 3) := by decide +kernel
theorem dX5_doubt_4 : decode cX5_doubt 4 = .ok (.astore_n 3, 1) := by decide +kernel
theorem dX5_doubt_5 : decode cX5_doubt 5 = .ok (.aload_n 3, 1) := by decide +kernel
theorem dX5_doubt_6 : decode cX5_doubt 6 = .ok (.iconst 0, 1) := by decide +kernel
theorem dX5_doubt_7 : decode cX5_doubt 7 = .ok (.invokevirtual 49, 3) := by decide +kernel
theorem dX5_doubt_10 : decode cX5_doubt 10 = .ok (.aload_n 3, 1) := by decide +kernel
theorem dX5_doubt_11 : decode cX5_doubt 11 = .ok (.iload_n 2, 1) := by decide +kernel
theorem dX5_doubt_12 : decode cX5_doubt 12 = .ok (.iconst 1, 1) := by decide +kernel
theorem dX5_doubt_13 : decode cX5_doubt 13 = .ok (.invokevirtual 123, 3) := by decide +kernel
theorem dX5_doubt_16 : decode cX5_doubt 16 = .ok (.aload_n 0, 1) := by decide +kernel
theorem dX5_doubt_17 : decode cX5_doubt 17 = .ok (.getfield 24, 3) := by decide +kernel
theorem dX5_doubt_20 : decode cX5_doubt 20 = .ok (.getfield 141, 3) := by decide +kernel
theorem dX5_doubt_23 : decode cX5_doubt 23 = .ok (.iconst 1, 1) := by decide +kernel
theorem dX5_doubt_24 : decode cX5_doubt 24 = .ok (.isub, 1) := by decide +kernel
theorem dX5_doubt_25 : decode cX5_doubt 25 = .ok (.istore 4, 2) := by decide +kernel
theorem dX5_doubt_27 : decode cX5_doubt 27 = .ok (.iload 4, 2) := by decide +kernel
theorem dX5_doubt_29 : decode cX5_doubt 29 = .ok (.bipush 6, 2) := by decide +kernel
theorem dX5_doubt_31 : decode cX5_doubt 31 = .ok (.if_icmp .lt 136, 3) := by decide +kernel
theorem dX5_doubt_34 : decode cX5_doubt 34 = .ok (.aload_n 0, 1) := by decide +kernel
theorem dX5_doubt_35 : decode cX5_doubt 35 = .ok (.getfield 24, 3) := by decide +kernel
theorem dX5_doubt_38 : decode cX5_doubt 38 = .ok (.getfield 108, 3) := by decide +kernel
theorem dX5_doubt_41 : decode cX5_doubt 41 = .ok (.iload 4, 2) := by decide +kernel
theorem dX5_doubt_43 : decode cX5_doubt 43 = .ok (.iaload, 1) := by decide +kernel
theorem dX5_doubt_44 : decode cX5_doubt 44 = .ok (.istore 5, 2) := by decide +kernel
theorem dX5_doubt_46 : decode cX5_doubt 46 = .ok (.aload_n 0, 1) := by decide +kernel
theorem dX5_doubt_47 : decode cX5_doubt 47 = .ok (.getfield 24, 3) := by decide +kernel
theorem dX5_doubt_50 : decode cX5_doubt 50 = .ok (.getfield 111, 3) := by decide +kernel
theorem dX5_doubt_53 : decode cX5_doubt 53 = .ok (.iload 4, 2) := by decide +kernel
theorem dX5_doubt_55 : decode cX5_doubt 55 = .ok (.iaload, 1) := by decide +kernel
theorem dX5_doubt_56 : decode cX5_doubt 56 = .ok (.istore 6, 2) := by decide +kernel
theorem dX5_doubt_58 : decode cX5_doubt 58 = .ok (.aload_n 1, 1) := by decide +kernel
theorem dX5_doubt_59 : decode cX5_doubt 59 = .ok (.getfield 45, 3) := by decide +kernel
theorem dX5_doubt_62 : decode cX5_doubt 62 = .ok (.iload 4, 2) := by decide +kernel
theorem dX5_doubt_64 : decode cX5_doubt 64 = .ok (.invokevirtual 157, 3) := by decide +kernel
theorem dX5_doubt_67 : decode cX5_doubt 67 = .ok (.ifCond .eq 37, 3) := by decide +kernel
theorem dX5_doubt_70 : decode cX5_doubt 70 = .ok (.aload_n 0, 1) := by decide +kernel
theorem dX5_doubt_71 : decode cX5_doubt 71 = .ok (.getfield 24, 3) := by decide +kernel
theorem dX5_doubt_74 : decode cX5_doubt 74 = .ok (.iload 4, 2) := by decide +kernel
theorem dX5_doubt_76 : decode cX5_doubt 76 = .ok (.invokevirtual 144, 3) := by decide +kernel
theorem dX5_doubt_79 : decode cX5_doubt 79 = .ok (.ifCond .eq 82, 3) := by decide +kernel
theorem dX5_doubt_82 : decode cX5_doubt 82 = .ok (.aload_n 1, 1) := by decide +kernel
theorem dX5_doubt_83 : decode cX5_doubt 83 = .ok (.getfield 45, 3) := by decide +kernel
theorem dX5_doubt_86 : decode cX5_doubt 86 = .ok (.iload 6, 2) := by decide +kernel
theorem dX5_doubt_88 : decode cX5_doubt 88 = .ok (.invokevirtual 157, 3) := by decide +kernel
theorem dX5_doubt_91 : decode cX5_doubt 91 = .ok (.ifCond .ne 70, 3) := by decide +kernel
theorem dX5_doubt_94 : decode cX5_doubt 94 = .ok (.aload_n 3, 1) := by decide +kernel
theorem dX5_doubt_95 : decode cX5_doubt 95 = .ok (.iload 5, 2) := by decide +kernel
theorem dX5_doubt_97 : decode cX5_doubt 97 = .ok (.iconst 1, 1) := by decide +kernel
theorem dX5_doubt_98 : decode cX5_doubt 98 = .ok (.invokevirtual 123, 3) := by decide +kernel
theorem dX5_doubt_101 : decode cX5_doubt 101 = .ok (.goto 60, 3) := by decide +kernel
theorem dX5_doubt_104 : decode cX5_doubt 104 = .ok (.aload_n 3, 1) := by decide +kernel
theorem dX5_doubt_105 : decode cX5_doubt 105 = .ok (.iload 4, 2) := by decide +kernel
theorem dX5_doubt_107 : decode cX5_doubt 107 = .ok (.invokevirtual 157, 3) := by decide +kernel
theorem dX5_doubt_110 : decode cX5_doubt 110 = .ok (.ifCond .eq 51, 3) := by decide +kernel
theorem dX5_doubt_113 : decode cX5_doubt 113 = .ok (.aload_n 0, 1) := by decide +kernel
theorem dX5_doubt_114 : decode cX5_doubt 114 = .ok (.getfield 24, 3) := by decide +kernel
theorem dX5_doubt_117 : decode cX5_doubt 117 = .ok (.iload 4, 2) := by decide +kernel
theorem dX5_doubt_119 : decode cX5_doubt 119 = .ok (.invokevirtual 144, 3) := by decide +kernel
theorem dX5_doubt_122 : decode cX5_doubt 122 = .ok (.ifCond .ne 20, 3) := by decide +kernel
theorem dX5_doubt_125 : decode cX5_doubt 125 = .ok (.aload_n 3, 1) := by decide +kernel
theorem dX5_doubt_126 : decode cX5_doubt 126 = .ok (.iload 5, 2) := by decide +kernel
theorem dX5_doubt_128 : decode cX5_doubt 128 = .ok (.iconst 1, 1) := by decide +kernel
theorem dX5_doubt_129 : decode cX5_doubt 129 = .ok (.invokevirtual 123, 3) := by decide +kernel
theorem dX5_doubt_132 : decode cX5_doubt 132 = .ok (.aload_n 3, 1) := by decide +kernel
theorem dX5_doubt_133 : decode cX5_doubt 133 = .ok (.iload 6, 2) := by decide +kernel
theorem dX5_doubt_135 : decode cX5_doubt 135 = .ok (.iconst 1, 1) := by decide +kernel
theorem dX5_doubt_136 : decode cX5_doubt 136 = .ok (.invokevirtual 123, 3) := by decide +kernel
theorem dX5_doubt_139 : decode cX5_doubt 139 = .ok (.goto 22, 3) := by decide +kernel
theorem dX5_doubt_142 : decode cX5_doubt 142 = .ok (.aload_n 1, 1) := by decide +kernel
theorem dX5_doubt_143 : decode cX5_doubt 143 = .ok (.getfield 45, 3) := by decide +kernel
theorem dX5_doubt_146 : decode cX5_doubt 146 = .ok (.iload 5, 2) := by decide +kernel
theorem dX5_doubt_148 : decode cX5_doubt 148 = .ok (.invokevirtual 157, 3) := by decide +kernel
theorem dX5_doubt_151 : decode cX5_doubt 151 = .ok (.ifCond .eq 10, 3) := by decide +kernel
theorem dX5_doubt_154 : decode cX5_doubt 154 = .ok (.aload_n 3, 1) := by decide +kernel
theorem dX5_doubt_155 : decode cX5_doubt 155 = .ok (.iload 6, 2) := by decide +kernel
theorem dX5_doubt_157 : decode cX5_doubt 157 = .ok (.iconst 1, 1) := by decide +kernel
theorem dX5_doubt_158 : decode cX5_doubt 158 = .ok (.invokevirtual 123, 3) := by decide +kernel
theorem dX5_doubt_161 : decode cX5_doubt 161 = .ok (.iinc 4 (-1), 3) := by decide +kernel
theorem dX5_doubt_164 : decode cX5_doubt 164 = .ok (.goto (-137), 3) := by decide +kernel
theorem dX5_doubt_167 : decode cX5_doubt 167 = .ok (.return_, 1) := by decide +kernel
set_option maxRecDepth 20000 in
theorem ggX5_meet_X3_has : GoodIn wsX5_meet wsX3_has := goodIn_r _ [13, 14, 15, 16, 57, 58, 59] (by decide +kernel) (by decide +kernel)
set_option maxRecDepth 20000 in
theorem gX5_meet_X3_has : GoodIn wsX5_meet (wsV RX5 157 RX3 yX3_has wsX3_has) := goodIn_app (goodIn_of _ (by decide +kernel)) ggX5_meet_X3_has
set_option maxRecDepth 20000 in
theorem ggX5_meet_X3_set : GoodIn wsX5_meet wsX3_set := goodIn_r _ [20, 14, 21, 15, 16, 57, 58, 59] (by decide +kernel) (by decide +kernel)
set_option maxRecDepth 20000 in
theorem gX5_meet_X3_set : GoodIn wsX5_meet (wsV RX5 123 RX3 yX3_set wsX3_set) := goodIn_app (goodIn_of _ (by decide +kernel)) ggX5_meet_X3_set
set_option maxRecDepth 20000 in
theorem ggX5_meet_X1_add : GoodIn wsX5_meet wsX1_add := goodIn_r _ [26, 27, 28, 29, 30, 31, 32, 33, 34, 35, 36, 37, 12, 38, 14, 15, 16, 60, 61, 62, 63, 57, 58, 59] (by decide +kernel) (by decide +kernel)
set_option maxRecDepth 20000 in
theorem gX5_meet_X1_add : GoodIn wsX5_meet (wsV RX5 131 RX1 yX1_add wsX1_add) := goodIn_app (goodIn_of _ (by decide +kernel)) ggX5_meet_X1_add
theorem dX5_meet_0 : decode cX5_meet 0 = .ok (.aload_n 1, 1) := by decide +kernel
theorem dX5_meet_1 : decode cX5_meet 1 = .ok (.getfield 114, 3) := by decide +kernel
theorem dX5_meet_4 : decode cX5_meet 4 = .ok (.astore_n 2, 1) := by decide +kernel
theorem dX5_meet_5 : decode cX5_meet 5 = .ok (.iconst 0, 1) := by decide +kernel
theorem dX5_meet_6 : decode cX5_meet 6 = .ok (.istore_n 3, 1) := by decide +kernel
theorem dX5_meet_7 : decode cX5_meet 7 = .ok (.iload_n 3, 1) := by decide +kernel
theorem dX5_meet_8 : decode cX5_meet 8 = .ok (.aload_n 0, 1) := by decide +kernel
theorem dX5_meet_9 : decode cX5_meet 9 = .ok (.getfield 24, 3) := by decide +kernel
theorem dX5_meet_12 : decode cX5_meet 12 = .ok (.getfield 141, 3) := by decide +kernel
theorem dX5_meet_15 : decode cX5_meet 15 = .ok (.if_icmp .ge 145, 3) := by decide +kernel
theorem dX5_meet_18 : decode cX5_meet 18 = .ok (.aload_n 2, 1) := by decide +kernel
theorem dX5_meet_19 : decode cX5_meet 19 = .ok (.aload_n 0, 1) := by decide +kernel
theorem dX5_meet_20 : decode cX5_meet 20 = .ok (.getfield 24, 3) := by decide +kernel
theorem dX5_meet_23 : decode cX5_meet 23 = .ok (.getfield 108, 3) := by decide +kernel
theorem dX5_meet_26 : decode cX5_meet 26 = .ok (.iload_n 3, 1) := by decide +kernel
theorem dX5_meet_27 : decode cX5_meet 27 = .ok (.iaload, 1) := by decide +kernel
theorem dX5_meet_28 : decode cX5_meet 28 = .ok (.invokevirtual 157, 3) := by decide +kernel
theorem dX5_meet_31 : decode cX5_meet 31 = .ok (.istore 4, 2) := by decide +kernel
theorem dX5_meet_33 : decode cX5_meet 33 = .ok (.aload_n 2, 1) := by decide +kernel
theorem dX5_meet_34 : decode cX5_meet 34 = .ok (.aload_n 0, 1) := by decide +kernel
theorem dX5_meet_35 : decode cX5_meet 35 = .ok (.getfield 24, 3) := by decide +kernel
theorem dX5_meet_38 : decode cX5_meet 38 = .ok (.getfield 111, 3) := by decide +kernel
theorem dX5_meet_41 : decode cX5_meet 41 = .ok (.iload_n 3, 1) := by decide +kernel
theorem dX5_meet_42 : decode cX5_meet 42 = .ok (.iaload, 1) := by decide +kernel
theorem dX5_meet_43 : decode cX5_meet 43 = .ok (.invokevirtual 157, 3) := by decide +kernel
theorem dX5_meet_46 : decode cX5_meet 46 = .ok (.istore 5, 2) := by decide +kernel
theorem dX5_meet_48 : decode cX5_meet 48 = .ok (.aload_n 0, 1) := by decide +kernel
theorem dX5_meet_49 : decode cX5_meet 49 = .ok (.getfield 24, 3) := by decide +kernel
theorem dX5_meet_52 : decode cX5_meet 52 = .ok (.getfield 100, 3) := by decide +kernel
theorem dX5_meet_55 : decode cX5_meet 55 = .ok (.iload_n 3, 1) := by decide +kernel
theorem dX5_meet_56 : decode cX5_meet 56 = .ok (.iaload, 1) := by decide +kernel
theorem dX5_meet_57 : decode cX5_meet 57 = .ok (.istore 6, 2) := by decide +kernel
theorem dX5_meet_59 : decode cX5_meet 59 = .ok (.aload_n 2, 1) := by decide +kernel
theorem dX5_meet_60 : decode cX5_meet 60 = .ok (.iload_n 3, 1) := by decide +kernel
theorem dX5_meet_61 : decode cX5_meet 61 = .ok (.iload 6, 2) := by decide +kernel
theorem dX5_meet_63 : decode cX5_meet 63 = .ok (.iconst 5, 1) := by decide +kernel
theorem dX5_meet_64 : decode cX5_meet 64 = .ok (.if_icmp .gt 14, 3) := by decide +kernel
theorem dX5_meet_67 : decode cX5_meet 67 = .ok (.aload_n 1, 1) := by decide +kernel
theorem dX5_meet_68 : decode cX5_meet 68 = .ok (.getfield 45, 3) := by decide +kernel
theorem dX5_meet_71 : decode cX5_meet 71 = .ok (.iload_n 3, 1) := by decide +kernel
theorem dX5_meet_72 : decode cX5_meet 72 = .ok (.invokevirtual 157, 3) := by decide +kernel
theorem dX5_meet_75 : decode cX5_meet 75 = .ok (.goto 76, 3) := by decide +kernel
theorem dX5_meet_78 : decode cX5_meet 78 = .ok (.iload 6, 2) := by decide +kernel
theorem dX5_meet_80 : decode cX5_meet 80 = .ok (.bipush 7, 2) := by decide +kernel
theorem dX5_meet_82 : decode cX5_meet 82 = .ok (.if_icmp .ne 21, 3) := by decide +kernel
theorem dX5_meet_85 : decode cX5_meet 85 = .ok (.iload 4, 2) := by decide +kernel
theorem dX5_meet_87 : decode cX5_meet 87 = .ok (.ifCond .eq 12, 3) := by decide +kernel
theorem dX5_meet_90 : decode cX5_meet 90 = .ok (.iload 5, 2) := by decide +kernel
theorem dX5_meet_92 : decode cX5_meet 92 = .ok (.ifCond .eq 7, 3) := by decide +kernel
theorem dX5_meet_95 : decode cX5_meet 95 = .ok (.iconst 1, 1) := by decide +kernel
theorem dX5_meet_96 : decode cX5_meet 96 = .ok (.goto 55, 3) := by decide +kernel
theorem dX5_meet_99 : decode cX5_meet 99 = .ok (.iconst 0, 1) := by decide +kernel
theorem dX5_meet_100 : decode cX5_meet 100 = .ok (.goto 51, 3) := by decide +kernel
theorem dX5_meet_103 : decode cX5_meet 103 = .ok (.iload 6, 2) := by decide +kernel
theorem dX5_meet_105 : decode cX5_meet 105 = .ok (.bipush 8, 2) := by decide +kernel
theorem dX5_meet_107 : decode cX5_meet 107 = .ok (.if_icmp .ne 21, 3) := by decide +kernel
theorem dX5_meet_110 : decode cX5_meet 110 = .ok (.iload 4, 2) := by decide +kernel
theorem dX5_meet_112 : decode cX5_meet 112 = .ok (.ifCond .ne 8, 3) := by decide +kernel
theorem dX5_meet_115 : decode cX5_meet 115 = .ok (.iload 5, 2) := by decide +kernel
theorem dX5_meet_117 : decode cX5_meet 117 = .ok (.ifCond .eq 7, 3) := by decide +kernel
theorem dX5_meet_120 : decode cX5_meet 120 = .ok (.iconst 1, 1) := by decide +kernel
theorem dX5_meet_121 : decode cX5_meet 121 = .ok (.goto 30, 3) := by decide +kernel
theorem dX5_meet_124 : decode cX5_meet 124 = .ok (.iconst 0, 1) := by decide +kernel
theorem dX5_meet_125 : decode cX5_meet 125 = .ok (.goto 26, 3) := by decide +kernel
theorem dX5_meet_128 : decode cX5_meet 128 = .ok (.aload_n 2, 1) := by decide +kernel
theorem dX5_meet_129 : decode cX5_meet 129 = .ok (.iload_n 3, 1) := by decide +kernel
theorem dX5_meet_130 : decode cX5_meet 130 = .ok (.invokevirtual 157, 3) := by decide +kernel
theorem dX5_meet_133 : decode cX5_meet 133 = .ok (.ifCond .eq 17, 3) := by decide +kernel
theorem dX5_meet_136 : decode cX5_meet 136 = .ok (.iload 4, 2) := by decide +kernel
theorem dX5_meet_138 : decode cX5_meet 138 = .ok (.ifCond .eq 8, 3) := by decide +kernel
theorem dX5_meet_141 : decode cX5_meet 141 = .ok (.iload 5, 2) := by decide +kernel
theorem dX5_meet_143 : decode cX5_meet 143 = .ok (.ifCond .eq 7, 3) := by decide +kernel
theorem dX5_meet_146 : decode cX5_meet 146 = .ok (.iconst 1, 1) := by decide +kernel
theorem dX5_meet_147 : decode cX5_meet 147 = .ok (.goto 4, 3) := by decide +kernel
theorem dX5_meet_150 : decode cX5_meet 150 = .ok (.iconst 0, 1) := by decide +kernel
theorem dX5_meet_151 : decode cX5_meet 151 = .ok (.invokevirtual 123, 3) := by decide +kernel
theorem dX5_meet_154 : decode cX5_meet 154 = .ok (.iinc 3 1, 3) := by decide +kernel
theorem dX5_meet_157 : decode cX5_meet 157 = .ok (.goto (-150), 3) := by decide +kernel
theorem dX5_meet_160 : decode cX5_meet 160 = .ok (.aload_n 0, 1) := by decide +kernel
theorem dX5_meet_161 : decode cX5_meet 161 = .ok (.getfield 34, 3) := by decide +kernel
theorem dX5_meet_164 : decode cX5_meet 164 = .ok (.aload_n 2, 1) := by decide +kernel
theorem dX5_meet_165 : decode cX5_meet 165 = .ok (.iconst 0, 1) := by decide +kernel
theorem dX5_meet_166 : decode cX5_meet 166 = .ok (.invokevirtual 131, 3) := by decide +kernel
theorem dX5_meet_169 : decode cX5_meet 169 = .ok (.return_, 1) := by decide +kernel
