theorem dX0_init_0 : decode cX0_init 0 = .ok (.aload_n 0, 1) := by decide +kernel
theorem dX0_init_1 : decode cX0_init 1 = .ok (.invokespecial 1, 3) := by decide +kernel
theorem dX0_init_4 : decode cX0_init 4 = .ok (.aload_n 0, 1) := by decide +kernel
theorem dX0_init_5 : decode cX0_init 5 = .ok (.iconst 0, 1) := by decide +kernel
theorem dX0_init_6 : decode cX0_init 6 = .ok (.iload_n 2, 1) := by decide +kernel
theorem dX0_init_7 : decode cX0_init 7 = .ok (.aload_n 1, 1) := by decide +kernel
theorem dX0_init_8 : decode cX0_init 8 = .ok (.arraylength, 1) := by decide +kernel
theorem dX0_init_9 : decode cX0_init 9 = .ok (.invokestatic 7, 3) := by decide +kernel
theorem dX0_init_12 : decode cX0_init 12 = .ok (.invokestatic 13, 3) := by decide +kernel
theorem dX0_init_15 : decode cX0_init 15 = .ok (.putfield 16, 3) := by decide +kernel
theorem dX0_init_18 : decode cX0_init 18 = .ok (.aload_n 0, 1) := by decide +kernel
theorem dX0_init_19 : decode cX0_init 19 = .ok (.aload_n 0, 1) := by decide +kernel
theorem dX0_init_20 : decode cX0_init 20 = .ok (.getfield 16, 3) := by decide +kernel
theorem dX0_init_23 : decode cX0_init 23 = .ok (.newarray .int, 2) := by decide +kernel
theorem dX0_init_25 : decode cX0_init 25 = .ok (.putfield 22, 3) := by decide +kernel
theorem dX0_init_28 : decode cX0_init 28 = .ok (.iconst 0, 1) := by decide +kernel
theorem dX0_init_29 : decode cX0_init 29 = .ok (.istore_n 3, 1) := by decide +kernel
theorem dX0_init_30 : decode cX0_init 30 = .ok (.iload_n 3, 1) := by decide +kernel
theorem dX0_init_31 : decode cX0_init 31 = .ok (.aload_n 0, 1) := by decide +kernel
theorem dX0_init_32 : decode cX0_init 32 = .ok (.getfield 16, 3) := by decide +kernel
theorem dX0_init_35 : decode cX0_init 35 = .ok (.if_icmp .ge 18, 3) := by decide +kernel
theorem dX0_init_38 : decode cX0_init 38 = .ok (.aload_n 0, 1) := by decide +kernel
theorem dX0_init_39 : decode cX0_init 39 = .ok (.getfield 22, 3) := by decide +kernel
theorem dX0_init_42 : decode cX0_init 42 = .ok (.iload_n 3, 1) := by decide +kernel
theorem dX0_init_43 : decode cX0_init 43 = .ok (.aload_n 1, 1) := by decide +kernel
theorem dX0_init_44 : decode cX0_init 44 = .ok (.iload_n 3, 1) := by decide +kernel
theorem dX0_init_45 : decode cX0_init 45 = .ok (.iaload, 1) := by decide +kernel
theorem dX0_init_46 : decode cX0_init 46 = .ok (.iastore, 1) := by decide +kernel
theorem dX0_init_47 : decode cX0_init 47 = .ok (.iinc 3 1, 3) := by decide +kernel
theorem dX0_init_50 : decode cX0_init 50 = .ok (.goto (-20), 3) := by decide +kernel
theorem dX0_init_53 : decode cX0_init 53 = .ok (.return_, 1) := by decide +kernel
set_option maxRecDepth 20000 in
theorem ggX0_joined_X0_init : GoodIn wsX0_joined wsX0_init := goodIn_r _ [9, 10, 11, 12, 13, 14, 15, 16, 17, 18, 19, 1, 2, 3, 20, 21] (by decide +kernel) (by decide +kernel)
set_option maxRecDepth 20000 in
theorem gX0_joined_X0_init : GoodIn wsX0_joined (wsX0_init) := ggX0_joined_X0_init
theorem dX0_joined_0 : decode cX0_joined 0 = .ok (.aload_n 0, 1) := by decide +kernel
theorem dX0_joined_1 : decode cX0_joined 1 = .ok (.getfield 16, 3) := by decide +kernel
theorem dX0_joined_4 : decode cX0_joined 4 = .ok (.aload_n 1, 1) := by decide +kernel
theorem dX0_joined_5 : decode cX0_joined 5 = .ok (.getfield 16, 3) := by decide +kernel
theorem dX0_joined_8 : decode cX0_joined 8 = .ok (.iadd, 1) := by decide +kernel
theorem dX0_joined_9 : decode cX0_joined 9 = .ok (.iconst 1, 1) := by decide +kernel
theorem dX0_joined_10 : decode cX0_joined 10 = .ok (.iadd, 1) := by decide +kernel
theorem dX0_joined_11 : decode cX0_joined 11 = .ok (.newarray .int, 2) := by decide +kernel
theorem dX0_joined_13 : decode cX0_joined 13 = .ok (.astore_n 3, 1) := by decide +kernel
theorem dX0_joined_14 : decode cX0_joined 14 = .ok (.iconst 0, 1) := by decide +kernel
theorem dX0_joined_15 : decode cX0_joined 15 = .ok (.istore 4, 2) := by decide +kernel
theorem dX0_joined_17 : decode cX0_joined 17 = .ok (.iload 4, 2) := by decide +kernel
theorem dX0_joined_19 : decode cX0_joined 19 = .ok (.aload_n 3, 1) := by decide +kernel
theorem dX0_joined_20 : decode cX0_joined 20 = .ok (.arraylength, 1) := by decide +kernel
theorem dX0_joined_21 : decode cX0_joined 21 = .ok (.if_icmp .ge 57, 3) := by decide +kernel
theorem dX0_joined_24 : decode cX0_joined 24 = .ok (.aload_n 3, 1) := by decide +kernel
theorem dX0_joined_25 : decode cX0_joined 25 = .ok (.iload 4, 2) := by decide +kernel
theorem dX0_joined_27 : decode cX0_joined 27 = .ok (.iload 4, 2) := by decide +kernel
theorem dX0_joined_29 : decode cX0_joined 29 = .ok (.aload_n 0, 1) := by decide +kernel
theorem dX0_joined_30 : decode cX0_joined 30 = .ok (.getfield 16, 3) := by decide +kernel
theorem dX0_joined_33 : decode cX0_joined 33 = .ok (.if_icmp .ge 13, 3) := by decide +kernel
theorem dX0_joined_36 : decode cX0_joined 36 = .ok (.aload_n 0, 1) := by decide +kernel
theorem dX0_joined_37 : decode cX0_joined 37 = .ok (.getfield 22, 3) := by decide +kernel
theorem dX0_joined_40 : decode cX0_joined 40 = .ok (.iload 4, 2) := by decide +kernel
theorem dX0_joined_42 : decode cX0_joined 42 = .ok (.iaload, 1) := by decide +kernel
theorem dX0_joined_43 : decode cX0_joined 43 = .ok (.goto 28, 3) := by decide +kernel
theorem dX0_joined_46 : decode cX0_joined 46 = .ok (.iload 4, 2) := by decide +kernel
theorem dX0_joined_48 : decode cX0_joined 48 = .ok (.iconst 1, 1) := by decide +kernel
theorem dX0_joined_49 : decode cX0_joined 49 = .ok (.iadd, 1) := by decide +kernel
theorem dX0_joined_50 : decode cX0_joined 50 = .ok (.aload_n 3, 1) := by decide +kernel
theorem dX0_joined_51 : decode cX0_joined 51 = .ok (.arraylength, 1) := by decide +kernel
theorem dX0_joined_52 : decode cX0_joined 52 = .ok (.if_icmp .ge 18, 3) := by decide +kernel
theorem dX0_joined_55 : decode cX0_joined 55 = .ok (.aload_n 1, 1) := by decide +kernel
theorem dX0_joined_56 : decode cX0_joined 56 = .ok (.getfield 22, 3) := by decide +kernel
theorem dX0_joined_59 : decode cX0_joined 59 = .ok (.iload 4, 2) := by decide +kernel
theorem dX0_joined_61 : decode cX0_joined 61 = .ok (.aload_n 0, 1) := by decide +kernel
theorem dX0_joined_62 : decode cX0_joined 62 = .ok (.getfield 16, 3) := by decide +kernel
theorem dX0_joined_65 : decode cX0_joined 65 = .ok (.isub, 1) := by decide +kernel
theorem dX0_joined_66 : decode cX0_joined 66 = .ok (.iaload, 1) := by decide +kernel
theorem dX0_joined_67 : decode cX0_joined 67 = .ok (.goto 4, 3) := by decide +kernel
theorem dX0_joined_70 : decode cX0_joined 70 = .ok (.iload_n 2, 1) := by decide +kernel
theorem dX0_joined_71 : decode cX0_joined 71 = .ok (.iastore, 1) := by decide +kernel
theorem dX0_joined_72 : decode cX0_joined 72 = .ok (.iinc 4 1, 3) := by decide +kernel
theorem dX0_joined_75 : decode cX0_joined 75 = .ok (.goto (-58), 3) := by decide +kernel
theorem dX0_joined_78 : decode cX0_joined 78 = .ok (.new 17, 3) := by decide +kernel
theorem dX0_joined_81 : decode cX0_joined 81 = .ok (.dup, 1) := by decide +kernel
theorem dX0_joined_82 : decode cX0_joined 82 = .ok (.aload_n 3, 1) := by decide +kernel
theorem dX0_joined_83 : decode cX0_joined 83 = .ok (.aload_n 3, 1) := by decide +kernel
theorem dX0_joined_84 : decode cX0_joined 84 = .ok (.arraylength, 1) := by decide +kernel
theorem dX0_joined_85 : decode cX0_joined 85 = .ok (.invokespecial 26, 3) := by decide +kernel
theorem dX0_joined_88 : decode cX0_joined 88 = .ok (.areturn, 1) := by decide +kernel
theorem dX0_isSameAs_0 : decode cX0_isSameAs 0 = .ok (.aload_n 0, 1) := by decide +kernel
theorem dX0_isSameAs_1 : decode cX0_isSameAs 1 = .ok (.getfield 16, 3) := by decide +kernel
theorem dX0_isSameAs_4 : decode cX0_isSameAs 4 = .ok (.aload_n 1, 1) := by decide +kernel
theorem dX0_isSameAs_5 : decode cX0_isSameAs 5 = .ok (.getfield 16, 3) := by decide +kernel
theorem dX0_isSameAs_8 : decode cX0_isSameAs 8 = .ok (.if_icmp .eq 5, 3) := by decide +kernel
theorem dX0_isSameAs_11 : decode cX0_isSameAs 11 = .ok (.iconst 0, 1) := by decide +kernel
theorem dX0_isSameAs_12 : decode cX0_isSameAs 12 = .ok (.ireturn, 1) := by decide +kernel
theorem dX0_isSameAs_13 : decode cX0_isSameAs 13 = .ok (.iconst 0, 1) := by decide +kernel
theorem dX0_isSameAs_14 : decode cX0_isSameAs 14 = .ok (.istore_n 2, 1) := by decide +kernel
theorem dX0_isSameAs_15 : decode cX0_isSameAs 15 = .ok (.iload_n 2, 1) := by decide +kernel
theorem dX0_isSameAs_16 : decode cX0_isSameAs 16 = .ok (.aload_n 0, 1) := by decide +kernel
theorem dX0_isSameAs_17 : decode cX0_isSameAs 17 = .ok (.getfield 16, 3) := by decide +kernel
theorem dX0_isSameAs_20 : decode cX0_isSameAs 20 = .ok (.if_icmp .ge 26, 3) := by decide +kernel
theorem dX0_isSameAs_23 : decode cX0_isSameAs 23 = .ok (.aload_n 0, 1) := by decide +kernel
theorem dX0_isSameAs_24 : decode cX0_isSameAs 24 = .ok (.getfield 22, 3) := by decide +kernel
theorem dX0_isSameAs_27 : decode cX0_isSameAs 27 = .ok (.iload_n 2, 1) := by decide +kernel
theorem dX0_isSameAs_28 : decode cX0_isSameAs 28 = .ok (.iaload, 1) := by decide +kernel
theorem dX0_isSameAs_29 : decode cX0_isSameAs 29 = .ok (.aload_n 1, 1) := by decide +kernel
theorem dX0_isSameAs_30 : decode cX0_isSameAs 30 = .ok (.getfield 22, 3) := by decide +kernel
theorem dX0_isSameAs_33 : decode cX0_isSameAs 33 = .ok (.iload_n 2, 1) := by decide +kernel
theorem dX0_isSameAs_34 : decode cX0_isSameAs 34 = .ok (.iaload, 1) := by decide +kernel
theorem dX0_isSameAs_35 : decode cX0_isSameAs 35 = .ok (.if_icmp .eq 5, 3) := by decide +kernel
theorem dX0_isSameAs_38 : decode cX0_isSameAs 38 = .ok (.iconst 0, 1) := by decide +kernel
theorem dX0_isSameAs_39 : decode cX0_isSameAs 39 = .ok (.ireturn, 1) := by decide +kernel
theorem dX0_isSameAs_40 : decode cX0_isSameAs 40 = .ok (.iinc 2 1, 3) := by decide +kernel
theorem dX0_isSameAs_43 : decode cX0_isSameAs 43 = .ok (.goto (-28), 3) := by decide +kernel
theorem dX0_isSameAs_46 : decode cX0_isSameAs 46 = .ok (.iconst 1, 1) := by decide +kernel
theorem dX0_isSameAs_47 : decode cX0_isSameAs 47 = .ok (.ireturn, 1) := by decide +kernel
set_option maxRecDepth 20000 in
theorem ggX1_init_X3_init : GoodIn wsX1_init wsX3_init := goodIn_r _ [14, 15, 2, 3, 16, 17, 18, 19, 20, 21, 26] (by decide +kernel) (by decide +kernel)
set_option maxRecDepth 20000 in
theorem gX1_init_X3_init : GoodIn wsX1_init (wsX3_init) := ggX1_init_X3_init
theorem dX1_init_0 : decode cX1_init 0 = .ok (.aload_n 0, 1) := by decide +kernel
theorem dX1_init_1 : decode cX1_init 1 = .ok (.invokespecial 1, 3) := by decide +kernel
theorem dX1_init_4 : decode cX1_init 4 = .ok (.aload_n 0, 1) := by decide +kernel
theorem dX1_init_5 : decode cX1_init 5 = .ok (.iconst 0, 1) := by decide +kernel
theorem dX1_init_6 : decode cX1_init 6 = .ok (.putfield 7, 3) := by decide +kernel
theorem dX1_init_9 : decode cX1_init 9 = .ok (.aload_n 0, 1) := by decide +kernel
theorem dX1_init_10 : decode cX1_init 10 = .ok (.new 13, 3) := by decide +kernel
theorem dX1_init_13 : decode cX1_init 13 = .ok (.dup, 1) := by decide +kernel
theorem dX1_init_14 : decode cX1_init 14 = .ok (.sipush 128, 3) := by decide +kernel
theorem dX1_init_17 : decode cX1_init 17 = .ok (.invokespecial 15, 3) := by decide +kernel
theorem dX1_init_20 : decode cX1_init 20 = .ok (.putfield 18, 3) := by decide +kernel
theorem dX1_init_23 : decode cX1_init 23 = .ok (.aload_n 0, 1) := by decide +kernel
theorem dX1_init_24 : decode cX1_init 24 = .ok (.sipush 128, 3) := by decide +kernel
theorem dX1_init_27 : decode cX1_init 27 = .ok (.newarray .int, 2) := by decide +kernel
theorem dX1_init_29 : decode cX1_init 29 = .ok (.putfield 22, 3) := by decide +kernel
theorem dX1_init_32 : decode cX1_init 32 = .ok (.aload_n 0, 1) := by decide +kernel
theorem dX1_init_33 : decode cX1_init 33 = .ok (.iconst 0, 1) := by decide +kernel
theorem dX1_init_34 : decode cX1_init 34 = .ok (.putfield 26, 3) := by decide +kernel
theorem dX1_init_37 : decode cX1_init 37 = .ok (.return_, 1) := by decide +kernel
theorem dX1_clear_0 : decode cX1_clear 0 = .ok (.aload_n 0, 1) := by decide +kernel
theorem dX1_clear_1 : decode cX1_clear 1 = .ok (.iconst 0, 1) := by decide +kernel
theorem dX1_clear_2 : decode cX1_clear 2 = .ok (.putfield 7, 3) := by decide +kernel
theorem dX1_clear_5 : decode cX1_clear 5 = .ok (.aload_n 0, 1) := by decide +kernel
theorem dX1_clear_6 : decode cX1_clear 6 = .ok (.iconst 0, 1) := by decide +kernel
theorem dX1_clear_7 : decode cX1_clear 7 = .ok (.putfield 26, 3) := by decide +kernel
theorem dX1_clear_10 : decode cX1_clear 10 = .ok (.return_, 1) := by decide +kernel
set_option maxRecDepth 20000 in
theorem ggX1_goal_X9_at : GoodIn wsX1_goal wsX9_at := goodIn_r _ [4] (by decide +kernel) (by decide +kernel)
set_option maxRecDepth 20000 in
theorem gX1_goal_X9_at_n29 : GoodIn wsX1_goal (wsX9_at) := ggX1_goal_X9_at
theorem dX1_goal_0 : decode cX1_goal 0 = .ok (.aload_n 0, 1) := by decide +kernel
theorem dX1_goal_1 : decode cX1_goal 1 = .ok (.getfield 22, 3) := by decide +kernel
theorem dX1_goal_4 : decode cX1_goal 4 = .ok (.iload_n 1, 1) := by decide +kernel
theorem dX1_goal_5 : decode cX1_goal 5 = .ok (.invokestatic 29, 3) := by decide +kernel
theorem dX1_goal_8 : decode cX1_goal 8 = .ok (.ireturn, 1) := by decide +kernel
set_option maxRecDepth 20000 in
theorem ggX1_add_X3_copy : GoodIn wsX1_add wsX3_copy := goodIn_r _ [13, 14, 15, 16, 12, 17, 18, 19, 20, 21, 22, 27] (by decide +kernel) (by decide +kernel)
set_option maxRecDepth 20000 in
theorem gX1_add_X3_copy : GoodIn wsX1_add (wsV RX1 35 RX3 yX3_copy wsX3_copy) := goodIn_app (goodIn_of _ (by decide +kernel)) ggX1_add_X3_copy
theorem dX1_add_0 : decode cX1_add 0 = .ok (.aload_n 0, 1) := by decide +kernel
theorem dX1_add_1 : decode cX1_add 1 = .ok (.getfield 26, 3) := by decide +kernel
theorem dX1_add_4 : decode cX1_add 4 = .ok (.ifCond .lt 13, 3) := by decide +kernel
theorem dX1_add_7 : decode cX1_add 7 = .ok (.aload_n 0, 1) := by decide +kernel
theorem dX1_add_8 : decode cX1_add 8 = .ok (.getfield 26, 3) := by decide +kernel
theorem dX1_add_11 : decode cX1_add 11 = .ok (.sipush 128, 3) := by decide +kernel
theorem dX1_add_14 : decode cX1_add 14 = .ok (.if_icmp .lt 8, 3) := by decide +kernel
theorem dX1_add_17 : decode cX1_add 17 = .ok (.aload_n 0, 1) := by decide +kernel
theorem dX1_add_18 : decode cX1_add 18 = .ok (.iconst 0, 1) := by decide +kernel
theorem dX1_add_19 : decode cX1_add 19 = .ok (.putfield 26, 3) := by decide +kernel
theorem dX1_add_22 : decode cX1_add 22 = .ok (.aload_n 0, 1) := by decide +kernel
theorem dX1_add_23 : decode cX1_add 23 = .ok (.getfield 18, 3) := by decide +kernel
theorem dX1_add_26 : decode cX1_add 26 = .ok (.aload_n 0, 1) := by decide +kernel
theorem dX1_add_27 : decode cX1_add 27 = .ok (.getfield 26, 3) := by decide +kernel
theorem dX1_add_30 : decode cX1_add 30 = .ok (.aload_n 1, 1) := by decide +kernel
theorem dX1_add_31 : decode cX1_add 31 = .ok (.iload_n 2, 1) := by decide +kernel
theorem dX1_add_32 : decode cX1_add 32 = .ok (.invokevirtual 35, 3) := by decide +kernel
theorem dX1_add_35 : decode cX1_add 35 = .ok (.aload_n 0, 1) := by decide +kernel
theorem dX1_add_36 : decode cX1_add 36 = .ok (.getfield 22, 3) := by decide +kernel
theorem dX1_add_39 : decode cX1_add 39 = .ok (.aload_n 0, 1) := by decide +kernel
theorem dX1_add_40 : decode cX1_add 40 = .ok (.getfield 26, 3) := by decide +kernel
theorem dX1_add_43 : decode cX1_add 43 = .ok (.iload_n 3, 1) := by decide +kernel
theorem dX1_add_44 : decode cX1_add 44 = .ok (.iastore, 1) := by decide +kernel
theorem dX1_add_45 : decode cX1_add 45 = .ok (.aload_n 0, 1) := by decide +kernel
theorem dX1_add_46 : decode cX1_add 46 = .ok (.dup, 1) := by decide +kernel
theorem dX1_add_47 : decode cX1_add 47 = .ok (.getfield 26, 3) := by decide +kernel
theorem dX1_add_50 : decode cX1_add 50 = .ok (.iconst 1, 1) := by decide +kernel
theorem dX1_add_51 : decode cX1_add 51 = .ok (.iadd, 1) := by decide +kernel
theorem dX1_add_52 : decode cX1_add 52 = .ok (.putfield 26, 3) := by decide +kernel
theorem dX1_add_55 : decode cX1_add 55 = .ok (.aload_n 0, 1) := by decide +kernel
theorem dX1_add_56 : decode cX1_add 56 = .ok (.aload_n 0, 1) := by decide +kernel
theorem dX1_add_57 : decode cX1_add 57 = .ok (.getfield 7, 3) := by decide +kernel
theorem dX1_add_60 : decode cX1_add 60 = .ok (.aload_n 0, 1) := by decide +kernel
theorem dX1_add_61 : decode cX1_add 61 = .ok (.getfield 26, 3) := by decide +kernel
theorem dX1_add_64 : decode cX1_add 64 = .ok (.invokestatic 39, 3) := by decide +kernel
theorem dX1_add_67 : decode cX1_add 67 = .ok (.putfield 7, 3) := by decide +kernel
theorem dX1_add_70 : decode cX1_add 70 = .ok (.return_, 1) := by decide +kernel
set_option maxRecDepth 20000 in
theorem ggX2_init_X3_init : GoodIn wsX2_init wsX3_init := goodIn_r _ [15, 16, 2, 3, 17, 18, 19, 20, 21, 22, 28] (by decide +kernel) (by decide +kernel)
set_option maxRecDepth 20000 in
theorem gX2_init_X3_init : GoodIn wsX2_init (wsX3_init) := ggX2_init_X3_init
theorem dX2_init_0 : decode cX2_init 0 = .ok (.aload_n 0, 1) := by decide +kernel
theorem dX2_init_1 : decode cX2_init 1 = .ok (.invokespecial 3, 3) := by decide +kernel
theorem dX2_init_4 : decode cX2_init 4 = .ok (.aload_n 0, 1) := by decide +kernel
theorem dX2_init_5 : decode cX2_init 5 = .ok (.iconst 0, 1) := by decide +kernel
theorem dX2_init_6 : decode cX2_init 6 = .ok (.putfield 9, 3) := by decide +kernel
theorem dX2_init_9 : decode cX2_init 9 = .ok (.aload_n 0, 1) := by decide +kernel
theorem dX2_init_10 : decode cX2_init 10 = .ok (.new 15, 3) := by decide +kernel
theorem dX2_init_13 : decode cX2_init 13 = .ok (.dup, 1) := by decide +kernel
theorem dX2_init_14 : decode cX2_init 14 = .ok (.iconst 1, 1) := by decide +kernel
theorem dX2_init_15 : decode cX2_init 15 = .ok (.invokespecial 17, 3) := by decide +kernel
theorem dX2_init_18 : decode cX2_init 18 = .ok (.putfield 20, 3) := by decide +kernel
theorem dX2_init_21 : decode cX2_init 21 = .ok (.aload_n 0, 1) := by decide +kernel
theorem dX2_init_22 : decode cX2_init 22 = .ok (.sipush 151, 3) := by decide +kernel
theorem dX2_init_25 : decode cX2_init 25 = .ok (.newarray .int, 2) := by decide +kernel
theorem dX2_init_27 : decode cX2_init 27 = .ok (.putfield 26, 3) := by decide +kernel
theorem dX2_init_30 : decode cX2_init 30 = .ok (.aload_n 0, 1) := by decide +kernel
theorem dX2_init_31 : decode cX2_init 31 = .ok (.new 15, 3) := by decide +kernel
theorem dX2_init_34 : decode cX2_init 34 = .ok (.dup, 1) := by decide +kernel
theorem dX2_init_35 : decode cX2_init 35 = .ok (.sipush 151, 3) := by decide +kernel
theorem dX2_init_38 : decode cX2_init 38 = .ok (.invokespecial 17, 3) := by decide +kernel
theorem dX2_init_41 : decode cX2_init 41 = .ok (.putfield 30, 3) := by decide +kernel
theorem dX2_init_44 : decode cX2_init 44 = .ok (.aload_n 0, 1) := by decide +kernel
theorem dX2_init_45 : decode cX2_init 45 = .ok (.aload_n 1, 1) := by decide +kernel
theorem dX2_init_46 : decode cX2_init 46 = .ok (.putfield 33, 3) := by decide +kernel
theorem dX2_init_49 : decode cX2_init 49 = .ok (.return_, 1) := by decide +kernel
set_option maxRecDepth 20000 in
theorem ggX2_has_X3_has : GoodIn wsX2_has wsX3_has := goodIn_r _ [6, 7, 13] (by decide +kernel) (by decide +kernel)
set_option maxRecDepth 20000 in
theorem gX2_has_X3_has : GoodIn wsX2_has (wsV RX2 37 RX3 yX3_has wsX3_has) := goodIn_app (goodIn_of _ (by decide +kernel)) ggX2_has_X3_has
theorem dX2_has_0 : decode cX2_has 0 = .ok (.aload_n 0, 1) := by decide +kernel
theorem dX2_has_1 : decode cX2_has 1 = .ok (.getfield 20, 3) := by decide +kernel
theorem dX2_has_4 : decode cX2_has 4 = .ok (.iconst 0, 1) := by decide +kernel
theorem dX2_has_5 : decode cX2_has 5 = .ok (.iload_n 1, 1) := by decide +kernel
theorem dX2_has_6 : decode cX2_has 6 = .ok (.invokevirtual 37, 3) := by decide +kernel
theorem dX2_has_9 : decode cX2_has 9 = .ok (.ireturn, 1) := by decide +kernel
set_option maxRecDepth 20000 in
theorem ggX2_part_X9_at : GoodIn wsX2_part wsX9_at := goodIn_r _ [4] (by decide +kernel) (by decide +kernel)
set_option maxRecDepth 20000 in
theorem gX2_part_X9_at_n41 : GoodIn wsX2_part (wsX9_at) := ggX2_part_X9_at
theorem dX2_part_0 : decode cX2_part 0 = .ok (.aload_n 0, 1) := by decide +kernel
theorem dX2_part_1 : decode cX2_part 1 = .ok (.getfield 26, 3) := by decide +kernel
theorem dX2_part_4 : decode cX2_part 4 = .ok (.iload_n 1, 1) := by decide +kernel
theorem dX2_part_5 : decode cX2_part 5 = .ok (.invokestatic 41, 3) := by decide +kernel
theorem dX2_part_8 : decode cX2_part 8 = .ok (.ireturn, 1) := by decide +kernel
set_option maxRecDepth 20000 in
theorem ggX2_cutTo_X2_part : GoodIn wsX2_cutTo wsX2_part := goodIn_r _ [7, 8, 9, 10, 11, 19, 20, 21, 22, 23] (by decide +kernel) (by decide +kernel)
set_option maxRecDepth 20000 in
theorem gX2_cutTo_X2_part : GoodIn wsX2_cutTo (wsV RX2 45 RX2 yX2_part wsX2_part) := goodIn_app (goodIn_of _ (by decide +kernel)) ggX2_cutTo_X2_part
set_option maxRecDepth 20000 in
theorem ggX2_cutTo_X3_remove : GoodIn wsX2_cutTo wsX3_remove := goodIn_r _ [16, 17, 18, 24] (by decide +kernel) (by decide +kernel)
set_option maxRecDepth 20000 in
theorem gX2_cutTo_X3_remove : GoodIn wsX2_cutTo (wsV RX2 49 RX3 yX3_remove wsX3_remove) := goodIn_app (goodIn_of _ (by decide +kernel)) ggX2_cutTo_X3_remove
theorem dX2_cutTo_0 : decode cX2_cutTo 0 = .ok (.aload_n 0, 1) := by decide +kernel
theorem dX2_cutTo_1 : decode cX2_cutTo 1 = .ok (.getfield 9, 3) := by decide +kernel
theorem dX2_cutTo_4 : decode cX2_cutTo 4 = .ok (.iconst 1, 1) := by decide +kernel
theorem dX2_cutTo_5 : decode cX2_cutTo 5 = .ok (.isub, 1) := by decide +kernel
theorem dX2_cutTo_6 : decode cX2_cutTo 6 = .ok (.istore_n 2, 1) := by decide +kernel
theorem dX2_cutTo_7 : decode cX2_cutTo 7 = .ok (.iload_n 2, 1) := by decide +kernel
theorem dX2_cutTo_8 : decode cX2_cutTo 8 = .ok (.iload_n 1, 1) := by decide +kernel
theorem dX2_cutTo_9 : decode cX2_cutTo 9 = .ok (.if_icmp .lt 31, 3) := by decide +kernel
theorem dX2_cutTo_12 : decode cX2_cutTo 12 = .ok (.iload_n 2, 1) := by decide +kernel
theorem dX2_cutTo_13 : decode cX2_cutTo 13 = .ok (.ifCond .lt 27, 3) := by decide +kernel
theorem dX2_cutTo_16 : decode cX2_cutTo 16 = .ok (.aload_n 0, 1) := by decide +kernel
theorem dX2_cutTo_17 : decode cX2_cutTo 17 = .ok (.getfield 20, 3) := by decide +kernel
theorem dX2_cutTo_20 : decode cX2_cutTo 20 = .ok (.iconst 0, 1) := by decide +kernel
theorem dX2_cutTo_21 : decode cX2_cutTo 21 = .ok (.aload_n 0, 1) := by decide +kernel
theorem dX2_cutTo_22 : decode cX2_cutTo 22 = .ok (.iload_n 2, 1) := by decide +kernel
theorem dX2_cutTo_23 : decode cX2_cutTo 23 = .ok (.invokevirtual 45, 3) := by decide +kernel
theorem dX2_cutTo_26 : decode cX2_cutTo 26 = .ok (.invokevirtual 49, 3) := by decide +kernel
theorem dX2_cutTo_29 : decode cX2_cutTo 29 = .ok (.aload_n 0, 1) := by decide +kernel
theorem dX2_cutTo_30 : decode cX2_cutTo 30 = .ok (.iload_n 2, 1) := by decide +kernel
theorem dX2_cutTo_31 : decode cX2_cutTo 31 = .ok (.putfield 9, 3) := by decide +kernel
theorem dX2_cutTo_34 : decode cX2_cutTo 34 = .ok (.iinc 2 (-1), 3) := by decide +kernel
theorem dX2_cutTo_37 : decode cX2_cutTo 37 = .ok (.goto (-30), 3) := by decide +kernel
theorem dX2_cutTo_40 : decode cX2_cutTo 40 = .ok (.return_, 1) := by decide +kernel
set_option maxRecDepth 20000 in
theorem ggX2_assume_X2_infer : GoodIn wsX2_assume wsX2_infer := goodIn_r _ [5, 6, 7, 8, 9, 10, 11, 12, 13, 14, 15, 16, 17, 18, 19, 20, 21, 22, 23, 24, 25, 26, 27, 28, 29, 30] (by decide +kernel) (by decide +kernel)
set_option maxRecDepth 20000 in
theorem gX2_assume_X2_infer : GoodIn wsX2_assume (wsV RX2 53 RX2 yX2_infer wsX2_infer) := goodIn_app (goodIn_of _ (by decide +kernel)) ggX2_assume_X2_infer
theorem dX2_assume_0 : decode cX2_assume 0 = .ok (.aload_n 0, 1) := by decide +kernel
theorem dX2_assume_1 : decode cX2_assume 1 = .ok (.iload_n 1, 1) := by decide +kernel
theorem dX2_assume_2 : decode cX2_assume 2 = .ok (.iload_n 1, 1) := by decide +kernel
theorem dX2_assume_3 : decode cX2_assume 3 = .ok (.iload_n 1, 1) := by decide +kernel
theorem dX2_assume_4 : decode cX2_assume 4 = .ok (.invokevirtual 53, 3) := by decide +kernel
theorem dX2_assume_7 : decode cX2_assume 7 = .ok (.return_, 1) := by decide +kernel
set_option maxRecDepth 20000 in
theorem ggX2_infer_X3_has : GoodIn wsX2_infer wsX3_has := goodIn_r _ [9, 10, 25] (by decide +kernel) (by decide +kernel)
set_option maxRecDepth 20000 in
theorem gX2_infer_X3_has : GoodIn wsX2_infer (wsV RX2 37 RX3 yX3_has wsX3_has) := goodIn_app (goodIn_of _ (by decide +kernel)) ggX2_infer_X3_has
set_option maxRecDepth 20000 in
theorem ggX2_infer_X3_fill : GoodIn wsX2_infer wsX3_fill := goodIn_r _ [14, 10, 15, 25] (by decide +kernel) (by decide +kernel)
set_option maxRecDepth 20000 in
theorem gX2_infer_X3_fill : GoodIn wsX2_infer (wsV RX2 57 RX3 yX3_fill wsX3_fill) := goodIn_app (goodIn_of _ (by decide +kernel)) ggX2_infer_X3_fill
set_option maxRecDepth 20000 in
theorem ggX2_infer_X3_add : GoodIn wsX2_infer wsX3_add := goodIn_r _ [19, 10, 25] (by decide +kernel) (by decide +kernel)
set_option maxRecDepth 20000 in
theorem gX2_infer_X3_add : GoodIn wsX2_infer (wsV RX2 61 RX3 yX3_add wsX3_add) := goodIn_app (goodIn_of _ (by decide +kernel)) ggX2_infer_X3_add
theorem dX2_infer_0 : decode cX2_infer 0 = .ok (.aload_n 0, 1) := by decide +kernel
theorem dX2_infer_1 : decode cX2_infer 1 = .ok (.getfield 20, 3) := by decide +kernel
theorem dX2_infer_4 : decode cX2_infer 4 = .ok (.iconst 0, 1) := by decide +kernel
theorem dX2_infer_5 : decode cX2_infer 5 = .ok (.iload_n 1, 1) := by decide +kernel
theorem dX2_infer_6 : decode cX2_infer 6 = .ok (.invokevirtual 37, 3) := by decide +kernel
theorem dX2_infer_9 : decode cX2_infer 9 = .ok (.ifCond .ne 78, 3) := by decide +kernel
theorem dX2_infer_12 : decode cX2_infer 12 = .ok (.aload_n 0, 1) := by decide +kernel
theorem dX2_infer_13 : decode cX2_infer 13 = .ok (.getfield 9, 3) := by decide +kernel
theorem dX2_infer_16 : decode cX2_infer 16 = .ok (.ifCond .lt 71, 3) := by decide +kernel
theorem dX2_infer_19 : decode cX2_infer 19 = .ok (.aload_n 0, 1) := by decide +kernel
theorem dX2_infer_20 : decode cX2_infer 20 = .ok (.getfield 9, 3) := by decide +kernel
theorem dX2_infer_23 : decode cX2_infer 23 = .ok (.aload_n 0, 1) := by decide +kernel
theorem dX2_infer_24 : decode cX2_infer 24 = .ok (.getfield 26, 3) := by decide +kernel
theorem dX2_infer_27 : decode cX2_infer 27 = .ok (.arraylength, 1) := by decide +kernel
theorem dX2_infer_28 : decode cX2_infer 28 = .ok (.if_icmp .ge 59, 3) := by decide +kernel
theorem dX2_infer_31 : decode cX2_infer 31 = .ok (.aload_n 0, 1) := by decide +kernel
theorem dX2_infer_32 : decode cX2_infer 32 = .ok (.getfield 30, 3) := by decide +kernel
theorem dX2_infer_35 : decode cX2_infer 35 = .ok (.iload_n 1, 1) := by decide +kernel
theorem dX2_infer_36 : decode cX2_infer 36 = .ok (.iconst 0, 1) := by decide +kernel
theorem dX2_infer_37 : decode cX2_infer 37 = .ok (.invokevirtual 57, 3) := by decide +kernel
theorem dX2_infer_40 : decode cX2_infer 40 = .ok (.aload_n 0, 1) := by decide +kernel
theorem dX2_infer_41 : decode cX2_infer 41 = .ok (.getfield 30, 3) := by decide +kernel
theorem dX2_infer_44 : decode cX2_infer 44 = .ok (.iload_n 1, 1) := by decide +kernel
theorem dX2_infer_45 : decode cX2_infer 45 = .ok (.iload_n 2, 1) := by decide +kernel
theorem dX2_infer_46 : decode cX2_infer 46 = .ok (.invokevirtual 61, 3) := by decide +kernel
theorem dX2_infer_49 : decode cX2_infer 49 = .ok (.aload_n 0, 1) := by decide +kernel
theorem dX2_infer_50 : decode cX2_infer 50 = .ok (.getfield 30, 3) := by decide +kernel
theorem dX2_infer_53 : decode cX2_infer 53 = .ok (.iload_n 1, 1) := by decide +kernel
theorem dX2_infer_54 : decode cX2_infer 54 = .ok (.iload_n 3, 1) := by decide +kernel
theorem dX2_infer_55 : decode cX2_infer 55 = .ok (.invokevirtual 61, 3) := by decide +kernel
theorem dX2_infer_58 : decode cX2_infer 58 = .ok (.aload_n 0, 1) := by decide +kernel
theorem dX2_infer_59 : decode cX2_infer 59 = .ok (.getfield 20, 3) := by decide +kernel
theorem dX2_infer_62 : decode cX2_infer 62 = .ok (.iconst 0, 1) := by decide +kernel
theorem dX2_infer_63 : decode cX2_infer 63 = .ok (.iload_n 1, 1) := by decide +kernel
theorem dX2_infer_64 : decode cX2_infer 64 = .ok (.invokevirtual 61, 3) := by decide +kernel
theorem dX2_infer_67 : decode cX2_infer 67 = .ok (.aload_n 0, 1) := by decide +kernel
theorem dX2_infer_68 : decode cX2_infer 68 = .ok (.getfield 26, 3) := by decide +kernel
theorem dX2_infer_71 : decode cX2_infer 71 = .ok (.aload_n 0, 1) := by decide +kernel
theorem dX2_infer_72 : decode cX2_infer 72 = .ok (.getfield 9, 3) := by decide +kernel
theorem dX2_infer_75 : decode cX2_infer 75 = .ok (.iload_n 1, 1) := by decide +kernel
theorem dX2_infer_76 : decode cX2_infer 76 = .ok (.iastore, 1) := by decide +kernel
theorem dX2_infer_77 : decode cX2_infer 77 = .ok (.aload_n 0, 1) := by decide +kernel
theorem dX2_infer_78 : decode cX2_infer 78 = .ok (.dup, 1) := by decide +kernel
theorem dX2_infer_79 : decode cX2_infer 79 = .ok (.getfield 9, 3) := by decide +kernel
theorem dX2_infer_82 : decode cX2_infer 82 = .ok (.iconst 1, 1) := by decide +kernel
theorem dX2_infer_83 : decode cX2_infer 83 = .ok (.iadd, 1) := by decide +kernel
theorem dX2_infer_84 : decode cX2_infer 84 = .ok (.putfield 9, 3) := by decide +kernel
theorem dX2_infer_87 : decode cX2_infer 87 = .ok (.return_, 1) := by decide +kernel
set_option maxRecDepth 20000 in
theorem ggX2_conclude_X2_has : GoodIn wsX2_conclude wsX2_has := goodIn_r _ [7, 2, 8, 9, 10, 11, 12, 13, 49, 50, 51, 52, 53, 54] (by decide +kernel) (by decide +kernel)
set_option maxRecDepth 20000 in
theorem gX2_conclude_X2_has : GoodIn wsX2_conclude (wsV RX2 64 RX2 yX2_has wsX2_has) := goodIn_app (goodIn_of _ (by decide +kernel)) ggX2_conclude_X2_has
set_option maxRecDepth 20000 in
theorem ggX2_conclude_X2_infer : GoodIn wsX2_conclude wsX2_infer := goodIn_r _ [17, 2, 18, 19, 1, 8, 9, 10, 11, 12, 13, 20, 21, 22, 23, 24, 25, 26, 27, 28, 49, 50, 51, 52, 53, 54] (by decide +kernel) (by decide +kernel)
set_option maxRecDepth 20000 in
theorem gX2_conclude_X2_infer : GoodIn wsX2_conclude (wsV RX2 53 RX2 yX2_infer wsX2_infer) := goodIn_app (goodIn_of _ (by decide +kernel)) ggX2_conclude_X2_infer
set_option maxRecDepth 20000 in
theorem ggX2_conclude_X3_unite : GoodIn wsX2_conclude wsX3_unite := goodIn_r _ [32, 33, 34, 35, 11, 36, 13, 37, 38, 39, 40, 54] (by decide +kernel) (by decide +kernel)
set_option maxRecDepth 20000 in
theorem gX2_conclude_X3_unite : GoodIn wsX2_conclude (wsV RX2 67 RX3 yX3_unite wsX3_unite) := goodIn_app (goodIn_of _ (by decide +kernel)) ggX2_conclude_X3_unite
set_option maxRecDepth 20000 in
theorem ggX2_conclude_X3_keepOnly : GoodIn wsX2_conclude wsX3_keepOnly := goodIn_r _ [44, 33, 34, 35, 11, 36, 13, 37, 38, 39, 40, 54] (by decide +kernel) (by decide +kernel)
set_option maxRecDepth 20000 in
theorem gX2_conclude_X3_keepOnly : GoodIn wsX2_conclude (wsV RX2 71 RX3 yX3_keepOnly wsX3_keepOnly) := goodIn_app (goodIn_of _ (by decide +kernel)) ggX2_conclude_X3_keepOnly
set_option maxRecDepth 20000 in
theorem ggX2_conclude_X3_remove : GoodIn wsX2_conclude wsX3_remove := goodIn_r _ [48, 13, 24, 54] (by decide +kernel) (by decide +kernel)
set_option maxRecDepth 20000 in
theorem gX2_conclude_X3_remove : GoodIn wsX2_conclude (wsV RX2 49 RX3 yX3_remove wsX3_remove) := goodIn_app (goodIn_of _ (by decide +kernel)) ggX2_conclude_X3_remove
theorem dX2_conclude_0 : decode cX2_conclude 0 = .ok (.aload_n 0, 1) := by decide +kernel
theorem dX2_conclude_1 : decode cX2_conclude 1 = .ok (.iload_n 1, 1) := by decide +kernel
theorem dX2_conclude_2 : decode cX2_conclude 2 = .ok (.invokevirtual 64, 3) := by decide +kernel
theorem dX2_conclude_5 : decode cX2_conclude 5 = .ok (.ifCond .ne 44, 3) := by decide +kernel
theorem dX2_conclude_8 : decode cX2_conclude 8 = .ok (.aload_n 0, 1) := by decide +kernel
theorem dX2_conclude_9 : decode cX2_conclude 9 = .ok (.iload_n 1, 1) := by decide +kernel
theorem dX2_conclude_10 : decode cX2_conclude 10 = .ok (.iload 4, 2) := by decide +kernel
theorem dX2_conclude_12 : decode cX2_conclude 12 = .ok (.iload 4, 2) := by decide +kernel
theorem dX2_conclude_14 : decode cX2_conclude 14 = .ok (.invokevirtual 53, 3) := by decide +kernel
theorem dX2_conclude_17 : decode cX2_conclude 17 = .ok (.aload_n 0, 1) := by decide +kernel
theorem dX2_conclude_18 : decode cX2_conclude 18 = .ok (.getfield 30, 3) := by decide +kernel
theorem dX2_conclude_21 : decode cX2_conclude 21 = .ok (.iload_n 1, 1) := by decide +kernel
theorem dX2_conclude_22 : decode cX2_conclude 22 = .ok (.aload_n 2, 1) := by decide +kernel
theorem dX2_conclude_23 : decode cX2_conclude 23 = .ok (.iload_n 3, 1) := by decide +kernel
theorem dX2_conclude_24 : decode cX2_conclude 24 = .ok (.invokevirtual 67, 3) := by decide +kernel
theorem dX2_conclude_27 : decode cX2_conclude 27 = .ok (.aload_n 0, 1) := by decide +kernel
theorem dX2_conclude_28 : decode cX2_conclude 28 = .ok (.getfield 30, 3) := by decide +kernel
theorem dX2_conclude_31 : decode cX2_conclude 31 = .ok (.iload_n 1, 1) := by decide +kernel
theorem dX2_conclude_32 : decode cX2_conclude 32 = .ok (.aload_n 0, 1) := by decide +kernel
theorem dX2_conclude_33 : decode cX2_conclude 33 = .ok (.getfield 20, 3) := by decide +kernel
theorem dX2_conclude_36 : decode cX2_conclude 36 = .ok (.iconst 0, 1) := by decide +kernel
theorem dX2_conclude_37 : decode cX2_conclude 37 = .ok (.invokevirtual 71, 3) := by decide +kernel
theorem dX2_conclude_40 : decode cX2_conclude 40 = .ok (.aload_n 0, 1) := by decide +kernel
theorem dX2_conclude_41 : decode cX2_conclude 41 = .ok (.getfield 30, 3) := by decide +kernel
theorem dX2_conclude_44 : decode cX2_conclude 44 = .ok (.iload_n 1, 1) := by decide +kernel
theorem dX2_conclude_45 : decode cX2_conclude 45 = .ok (.iload_n 1, 1) := by decide +kernel
theorem dX2_conclude_46 : decode cX2_conclude 46 = .ok (.invokevirtual 49, 3) := by decide +kernel
theorem dX2_conclude_49 : decode cX2_conclude 49 = .ok (.return_, 1) := by decide +kernel
set_option maxRecDepth 20000 in
theorem ggX2_explain_X2_part : GoodIn wsX2_explain wsX2_part := goodIn_r _ [7, 8, 9, 10, 11, 35, 36, 37, 38, 39] (by decide +kernel) (by decide +kernel)
set_option maxRecDepth 20000 in
theorem gX2_explain_X2_part : GoodIn wsX2_explain (wsV RX2 45 RX2 yX2_part wsX2_part) := goodIn_app (goodIn_of _ (by decide +kernel)) ggX2_explain_X2_part
set_option maxRecDepth 20000 in
theorem ggX2_explain_X3_has : GoodIn wsX2_explain wsX3_has := goodIn_r _ [16, 17, 40] (by decide +kernel) (by decide +kernel)
set_option maxRecDepth 20000 in
theorem gX2_explain_X3_has : GoodIn wsX2_explain (wsV RX2 37 RX3 yX3_has wsX3_has) := goodIn_app (goodIn_of _ (by decide +kernel)) ggX2_explain_X3_has
set_option maxRecDepth 20000 in
theorem ggX2_explain_X3_remove : GoodIn wsX2_explain wsX3_remove := goodIn_r _ [21, 17, 22, 40] (by decide +kernel) (by decide +kernel)
set_option maxRecDepth 20000 in
theorem gX2_explain_X3_remove : GoodIn wsX2_explain (wsV RX2 49 RX3 yX3_remove wsX3_remove) := goodIn_app (goodIn_of _ (by decide +kernel)) ggX2_explain_X3_remove
set_option maxRecDepth 20000 in
theorem ggX2_explain_X3_unite : GoodIn wsX2_explain wsX3_unite := goodIn_r _ [26, 27, 28, 29, 15, 30, 17, 31, 32, 33, 34, 40] (by decide +kernel) (by decide +kernel)
set_option maxRecDepth 20000 in
theorem gX2_explain_X3_unite : GoodIn wsX2_explain (wsV RX2 67 RX3 yX3_unite wsX3_unite) := goodIn_app (goodIn_of _ (by decide +kernel)) ggX2_explain_X3_unite
theorem dX2_explain_0 : decode cX2_explain 0 = .ok (.aload_n 0, 1) := by decide +kernel
theorem dX2_explain_1 : decode cX2_explain 1 = .ok (.getfield 9, 3) := by decide +kernel
theorem dX2_explain_4 : decode cX2_explain 4 = .ok (.iconst 1, 1) := by decide +kernel
theorem dX2_explain_5 : decode cX2_explain 5 = .ok (.isub, 1) := by decide +kernel
theorem dX2_explain_6 : decode cX2_explain 6 = .ok (.istore 4, 2) := by decide +kernel
theorem dX2_explain_8 : decode cX2_explain 8 = .ok (.iload 4, 2) := by decide +kernel
theorem dX2_explain_10 : decode cX2_explain 10 = .ok (.iload_n 3, 1) := by decide +kernel
theorem dX2_explain_11 : decode cX2_explain 11 = .ok (.if_icmp .lt 50, 3) := by decide +kernel
theorem dX2_explain_14 : decode cX2_explain 14 = .ok (.iload 4, 2) := by decide +kernel
theorem dX2_explain_16 : decode cX2_explain 16 = .ok (.ifCond .lt 45, 3) := by decide +kernel
theorem dX2_explain_19 : decode cX2_explain 19 = .ok (.aload_n 0, 1) := by decide +kernel
theorem dX2_explain_20 : decode cX2_explain 20 = .ok (.iload 4, 2) := by decide +kernel
theorem dX2_explain_22 : decode cX2_explain 22 = .ok (.invokevirtual 45, 3) := by decide +kernel
theorem dX2_explain_25 : decode cX2_explain 25 = .ok (.istore 5, 2) := by decide +kernel
theorem dX2_explain_27 : decode cX2_explain 27 = .ok (.aload_n 1, 1) := by decide +kernel
theorem dX2_explain_28 : decode cX2_explain 28 = .ok (.iload_n 2, 1) := by decide +kernel
theorem dX2_explain_29 : decode cX2_explain 29 = .ok (.iload 5, 2) := by decide +kernel
theorem dX2_explain_31 : decode cX2_explain 31 = .ok (.invokevirtual 37, 3) := by decide +kernel
theorem dX2_explain_34 : decode cX2_explain 34 = .ok (.ifCond .eq 21, 3) := by decide +kernel
theorem dX2_explain_37 : decode cX2_explain 37 = .ok (.aload_n 1, 1) := by decide +kernel
theorem dX2_explain_38 : decode cX2_explain 38 = .ok (.iload_n 2, 1) := by decide +kernel
theorem dX2_explain_39 : decode cX2_explain 39 = .ok (.iload 5, 2) := by decide +kernel
theorem dX2_explain_41 : decode cX2_explain 41 = .ok (.invokevirtual 49, 3) := by decide +kernel
theorem dX2_explain_44 : decode cX2_explain 44 = .ok (.aload_n 1, 1) := by decide +kernel
theorem dX2_explain_45 : decode cX2_explain 45 = .ok (.iload_n 2, 1) := by decide +kernel
theorem dX2_explain_46 : decode cX2_explain 46 = .ok (.aload_n 0, 1) := by decide +kernel
theorem dX2_explain_47 : decode cX2_explain 47 = .ok (.getfield 30, 3) := by decide +kernel
theorem dX2_explain_50 : decode cX2_explain 50 = .ok (.iload 5, 2) := by decide +kernel
theorem dX2_explain_52 : decode cX2_explain 52 = .ok (.invokevirtual 67, 3) := by decide +kernel
theorem dX2_explain_55 : decode cX2_explain 55 = .ok (.iinc 4 (-1), 3) := by decide +kernel
theorem dX2_explain_58 : decode cX2_explain 58 = .ok (.goto (-50), 3) := by decide +kernel
theorem dX2_explain_61 : decode cX2_explain 61 = .ok (.return_, 1) := by decide +kernel
set_option maxRecDepth 20000 in
theorem ggX2_spread_X2_grows_h : GoodIn wsX2_spread [Cond.code yX2_grows cX2_grows 7 (some .boolean)] := goodIn_r _ [7] (by decide +kernel) (by decide +kernel)
set_option maxRecDepth 20000 in
theorem ggX2_spread_X2_grows_0 : GoodIn wsX2_spread wsX2_grows_r1 := goodIn_r _ [1, 8, 9, 10, 11, 12, 13, 14, 15, 16, 17, 18, 19, 20, 21, 22, 23, 6, 24, 25, 26, 27, 28, 29] (by decide +kernel) (by decide +kernel)
set_option maxRecDepth 20000 in
theorem ggX2_spread_X2_grows_1 : GoodIn wsX2_spread wsX2_grows_r2 := goodIn_r _ [30, 31, 32, 33, 34, 35, 36, 37, 38, 39, 40, 41, 42, 43] (by decide +kernel) (by decide +kernel)
set_option maxRecDepth 20000 in
theorem ggX2_spread_X2_grows_2 : GoodIn wsX2_spread wsX20 := goodIn_r _ [44, 45, 46, 47, 48] (by decide +kernel) (by decide +kernel)
set_option maxRecDepth 20000 in
theorem ggX2_spread_X2_grows_3 : GoodIn wsX2_spread wsX40 := goodIn_r _ [49, 50, 51, 52, 53, 54, 55, 56] (by decide +kernel) (by decide +kernel)
set_option maxRecDepth 20000 in
theorem ggX2_spread_X2_grows_4 : GoodIn wsX2_spread wsX30 := goodIn_r _ [57] (by decide +kernel) (by decide +kernel)
theorem ggX2_spread_X2_grows : GoodIn wsX2_spread wsX2_grows := goodIn_app ggX2_spread_X2_grows_h (goodIn_app (goodIn_app (goodIn_app (goodIn_app ggX2_spread_X2_grows_0 ggX2_spread_X2_grows_1) ggX2_spread_X2_grows_2) ggX2_spread_X2_grows_3) ggX2_spread_X2_grows_4)
set_option maxRecDepth 20000 in
theorem gX2_spread_X2_grows : GoodIn wsX2_spread (wsV RX2 75 RX2 yX2_grows wsX2_grows) := goodIn_app (goodIn_of _ (by decide +kernel)) ggX2_spread_X2_grows
theorem dX2_spread_0 : decode cX2_spread 0 = .ok (.iconst 1, 1) := by decide +kernel
theorem dX2_spread_1 : decode cX2_spread 1 = .ok (.istore_n 1, 1) := by decide +kernel
theorem dX2_spread_2 : decode cX2_spread 2 = .ok (.iconst 0, 1) := by decide +kernel
theorem dX2_spread_3 : decode cX2_spread 3 = .ok (.istore_n 2, 1) := by decide +kernel
theorem dX2_spread_4 : decode cX2_spread 4 = .ok (.iload_n 1, 1) := by decide +kernel
theorem dX2_spread_5 : decode cX2_spread 5 = .ok (.ifCond .eq 78, 3) := by decide +kernel
theorem dX2_spread_8 : decode cX2_spread 8 = .ok (.iload_n 2, 1) := by decide +kernel
theorem dX2_spread_9 : decode cX2_spread 9 = .ok (.sipush 151, 3) := by decide +kernel
theorem dX2_spread_12 : decode cX2_spread 12 = .ok (.if_icmp .gt 71, 3) := by decide +kernel
theorem dX2_spread_15 : decode cX2_spread 15 = .ok (.iconst 0, 1) := by decide +kernel
theorem dX2_spread_16 : decode cX2_spread 16 = .ok (.istore_n 1, 1) := by decide +kernel
theorem dX2_spread_17 : decode cX2_spread 17 = .ok (.bipush 6, 2) := by decide +kernel
theorem dX2_spread_19 : decode cX2_spread 19 = .ok (.istore_n 3, 1) := by decide +kernel
theorem dX2_spread_20 : decode cX2_spread 20 = .ok (.iload_n 3, 1) := by decide +kernel
theorem dX2_spread_21 : decode cX2_spread 21 = .ok (.aload_n 0, 1) := by decide +kernel
theorem dX2_spread_22 : decode cX2_spread 22 = .ok (.getfield 33, 3) := by decide +kernel
theorem dX2_spread_25 : decode cX2_spread 25 = .ok (.getfield 74, 3) := by decide +kernel
theorem dX2_spread_28 : decode cX2_spread 28 = .ok (.if_icmp .ge 17, 3) := by decide +kernel
theorem dX2_spread_31 : decode cX2_spread 31 = .ok (.iload_n 1, 1) := by decide +kernel
theorem dX2_spread_32 : decode cX2_spread 32 = .ok (.aload_n 0, 1) := by decide +kernel
theorem dX2_spread_33 : decode cX2_spread 33 = .ok (.iload_n 3, 1) := by decide +kernel
theorem dX2_spread_34 : decode cX2_spread 34 = .ok (.invokevirtual 75, 3) := by decide +kernel
theorem dX2_spread_37 : decode cX2_spread 37 = .ok (.ior, 1) := by decide +kernel
theorem dX2_spread_38 : decode cX2_spread 38 = .ok (.istore_n 1, 1) := by decide +kernel
theorem dX2_spread_39 : decode cX2_spread 39 = .ok (.iinc 3 1, 3) := by decide +kernel
theorem dX2_spread_42 : decode cX2_spread 42 = .ok (.goto (-22), 3) := by decide +kernel
theorem dX2_spread_45 : decode cX2_spread 45 = .ok (.aload_n 0, 1) := by decide +kernel
theorem dX2_spread_46 : decode cX2_spread 46 = .ok (.getfield 33, 3) := by decide +kernel
theorem dX2_spread_49 : decode cX2_spread 49 = .ok (.getfield 74, 3) := by decide +kernel
theorem dX2_spread_52 : decode cX2_spread 52 = .ok (.iconst 1, 1) := by decide +kernel
theorem dX2_spread_53 : decode cX2_spread 53 = .ok (.isub, 1) := by decide +kernel
theorem dX2_spread_54 : decode cX2_spread 54 = .ok (.istore_n 3, 1) := by decide +kernel
theorem dX2_spread_55 : decode cX2_spread 55 = .ok (.iload_n 1, 1) := by decide +kernel
theorem dX2_spread_56 : decode cX2_spread 56 = .ok (.ifCond .eq 21, 3) := by decide +kernel
theorem dX2_spread_59 : decode cX2_spread 59 = .ok (.iload_n 3, 1) := by decide +kernel
theorem dX2_spread_60 : decode cX2_spread 60 = .ok (.bipush 6, 2) := by decide +kernel
theorem dX2_spread_62 : decode cX2_spread 62 = .ok (.if_icmp .lt 15, 3) := by decide +kernel
theorem dX2_spread_65 : decode cX2_spread 65 = .ok (.aload_n 0, 1) := by decide +kernel
theorem dX2_spread_66 : decode cX2_spread 66 = .ok (.iload_n 3, 1) := by decide +kernel
theorem dX2_spread_67 : decode cX2_spread 67 = .ok (.invokevirtual 75, 3) := by decide +kernel
theorem dX2_spread_70 : decode cX2_spread 70 = .ok (.pop, 1) := by decide +kernel
theorem dX2_spread_71 : decode cX2_spread 71 = .ok (.iinc 3 (-1), 3) := by decide +kernel
theorem dX2_spread_74 : decode cX2_spread 74 = .ok (.goto (-19), 3) := by decide +kernel
theorem dX2_spread_77 : decode cX2_spread 77 = .ok (.iinc 2 1, 3) := by decide +kernel
theorem dX2_spread_80 : decode cX2_spread 80 = .ok (.goto (-76), 3) := by decide +kernel
theorem dX2_spread_83 : decode cX2_spread 83 = .ok (.return_, 1) := by decide +kernel
set_option maxRecDepth 20000 in
theorem ggX2_grows_X9_at : GoodIn wsX2_grows wsX9_at := goodIn_r _ [8] (by decide +kernel) (by decide +kernel)
set_option maxRecDepth 20000 in
theorem gX2_grows_X9_at_n41 : GoodIn wsX2_grows (wsX9_at) := ggX2_grows_X9_at
set_option maxRecDepth 20000 in
theorem ggX2_grows_X3_has : GoodIn wsX2_grows wsX3_has := goodIn_r _ [13, 14, 52] (by decide +kernel) (by decide +kernel)
set_option maxRecDepth 20000 in
theorem gX2_grows_X3_has : GoodIn wsX2_grows (wsV RX2 37 RX3 yX3_has wsX3_has) := goodIn_app (goodIn_of _ (by decide +kernel)) ggX2_grows_X3_has
set_option maxRecDepth 20000 in
theorem ggX2_grows_X2_infer : GoodIn wsX2_grows wsX2_infer := goodIn_r _ [19, 5, 20, 21, 22, 9, 10, 11, 12, 13, 14, 23, 24, 25, 26, 27, 28, 29, 30, 31, 39, 40, 41, 42, 43, 52] (by decide +kernel) (by decide +kernel)
set_option maxRecDepth 20000 in
theorem gX2_grows_X2_infer : GoodIn wsX2_grows (wsV RX2 53 RX2 yX2_infer wsX2_infer) := goodIn_app (goodIn_of _ (by decide +kernel)) ggX2_grows_X2_infer
set_option maxRecDepth 20000 in
theorem ggX2_grows_X4_isIf : GoodIn wsX2_grows wsX4_isIf := goodIn_r _ [36, 37, 38, 44, 45, 46, 47, 48, 49, 50, 51] (by decide +kernel) (by decide +kernel)
set_option maxRecDepth 20000 in
theorem gX2_grows_X4_isIf : GoodIn wsX2_grows (wsV RX2 87 RX4 yX4_isIf wsX4_isIf) := goodIn_app (goodIn_of _ (by decide +kernel)) ggX2_grows_X4_isIf
theorem dX2_grows_0 : decode cX2_grows 0 = .ok (.aload_n 0, 1) := by decide +kernel
theorem dX2_grows_1 : decode cX2_grows 1 = .ok (.getfield 33, 3) := by decide +kernel
theorem dX2_grows_4 : decode cX2_grows 4 = .ok (.getfield 78, 3) := by decide +kernel
theorem dX2_grows_7 : decode cX2_grows 7 = .ok (.iload_n 1, 1) := by decide +kernel
theorem dX2_grows_8 : decode cX2_grows 8 = .ok (.invokestatic 41, 3) := by decide +kernel
theorem dX2_grows_11 : decode cX2_grows 11 = .ok (.istore_n 2, 1) := by decide +kernel
theorem dX2_grows_12 : decode cX2_grows 12 = .ok (.aload_n 0, 1) := by decide +kernel
theorem dX2_grows_13 : decode cX2_grows 13 = .ok (.getfield 33, 3) := by decide +kernel
theorem dX2_grows_16 : decode cX2_grows 16 = .ok (.getfield 81, 3) := by decide +kernel
theorem dX2_grows_19 : decode cX2_grows 19 = .ok (.iload_n 1, 1) := by decide +kernel
theorem dX2_grows_20 : decode cX2_grows 20 = .ok (.invokestatic 41, 3) := by decide +kernel
theorem dX2_grows_23 : decode cX2_grows 23 = .ok (.istore_n 3, 1) := by decide +kernel
theorem dX2_grows_24 : decode cX2_grows 24 = .ok (.aload_n 0, 1) := by decide +kernel
theorem dX2_grows_25 : decode cX2_grows 25 = .ok (.getfield 33, 3) := by decide +kernel
theorem dX2_grows_28 : decode cX2_grows 28 = .ok (.getfield 84, 3) := by decide +kernel
theorem dX2_grows_31 : decode cX2_grows 31 = .ok (.iload_n 1, 1) := by decide +kernel
theorem dX2_grows_32 : decode cX2_grows 32 = .ok (.invokestatic 41, 3) := by decide +kernel
theorem dX2_grows_35 : decode cX2_grows 35 = .ok (.istore 4, 2) := by decide +kernel
theorem dX2_grows_37 : decode cX2_grows 37 = .ok (.aload_n 0, 1) := by decide +kernel
theorem dX2_grows_38 : decode cX2_grows 38 = .ok (.getfield 20, 3) := by decide +kernel
theorem dX2_grows_41 : decode cX2_grows 41 = .ok (.iconst 0, 1) := by decide +kernel
theorem dX2_grows_42 : decode cX2_grows 42 = .ok (.iload_n 3, 1) := by decide +kernel
theorem dX2_grows_43 : decode cX2_grows 43 = .ok (.invokevirtual 37, 3) := by decide +kernel
theorem dX2_grows_46 : decode cX2_grows 46 = .ok (.istore 5, 2) := by decide +kernel
theorem dX2_grows_48 : decode cX2_grows 48 = .ok (.aload_n 0, 1) := by decide +kernel
theorem dX2_grows_49 : decode cX2_grows 49 = .ok (.getfield 20, 3) := by decide +kernel
theorem dX2_grows_52 : decode cX2_grows 52 = .ok (.iconst 0, 1) := by decide +kernel
theorem dX2_grows_53 : decode cX2_grows 53 = .ok (.iload 4, 2) := by decide +kernel
theorem dX2_grows_55 : decode cX2_grows 55 = .ok (.invokevirtual 37, 3) := by decide +kernel
theorem dX2_grows_58 : decode cX2_grows 58 = .ok (.istore 6, 2) := by decide +kernel
theorem dX2_grows_60 : decode cX2_grows 60 = .ok (.aload_n 0, 1) := by decide +kernel
theorem dX2_grows_61 : decode cX2_grows 61 = .ok (.getfield 20, 3) := by decide +kernel
theorem dX2_grows_64 : decode cX2_grows 64 = .ok (.iconst 0, 1) := by decide +kernel
theorem dX2_grows_65 : decode cX2_grows 65 = .ok (.iload_n 1, 1) := by decide +kernel
theorem dX2_grows_66 : decode cX2_grows 66 = .ok (.invokevirtual 37, 3) := by decide +kernel
theorem dX2_grows_69 : decode cX2_grows 69 = .ok (.ifCond .ne 95, 3) := by decide +kernel
theorem dX2_grows_72 : decode cX2_grows 72 = .ok (.iload_n 2, 1) := by decide +kernel
theorem dX2_grows_73 : decode cX2_grows 73 = .ok (.bipush 7, 2) := by decide +kernel
theorem dX2_grows_75 : decode cX2_grows 75 = .ok (.if_icmp .ne 16, 3) := by decide +kernel
theorem dX2_grows_78 : decode cX2_grows 78 = .ok (.iload 5, 2) := by decide +kernel
theorem dX2_grows_80 : decode cX2_grows 80 = .ok (.ifCond .eq 82, 3) := by decide +kernel
theorem dX2_grows_83 : decode cX2_grows 83 = .ok (.iload 6, 2) := by decide +kernel
theorem dX2_grows_85 : decode cX2_grows 85 = .ok (.ifCond .eq 77, 3) := by decide +kernel
theorem dX2_grows_88 : decode cX2_grows 88 = .ok (.goto 27, 3) := by decide +kernel
theorem dX2_grows_91 : decode cX2_grows 91 = .ok (.iload_n 2, 1) := by decide +kernel
theorem dX2_grows_92 : decode cX2_grows 92 = .ok (.bipush 8, 2) := by decide +kernel
theorem dX2_grows_94 : decode cX2_grows 94 = .ok (.if_icmp .ne 16, 3) := by decide +kernel
theorem dX2_grows_97 : decode cX2_grows 97 = .ok (.iload 5, 2) := by decide +kernel
theorem dX2_grows_99 : decode cX2_grows 99 = .ok (.ifCond .ne 16, 3) := by decide +kernel
theorem dX2_grows_102 : decode cX2_grows 102 = .ok (.iload 6, 2) := by decide +kernel
theorem dX2_grows_104 : decode cX2_grows 104 = .ok (.ifCond .eq 58, 3) := by decide +kernel
theorem dX2_grows_107 : decode cX2_grows 107 = .ok (.goto 8, 3) := by decide +kernel
theorem dX2_grows_110 : decode cX2_grows 110 = .ok (.iload 6, 2) := by decide +kernel
theorem dX2_grows_112 : decode cX2_grows 112 = .ok (.ifCond .eq 50, 3) := by decide +kernel
theorem dX2_grows_115 : decode cX2_grows 115 = .ok (.aload_n 0, 1) := by decide +kernel
theorem dX2_grows_116 : decode cX2_grows 116 = .ok (.iload_n 1, 1) := by decide +kernel
theorem dX2_grows_117 : decode cX2_grows 117 = .ok (.iload_n 2, 1) := by decide +kernel
theorem dX2_grows_118 : decode cX2_grows 118 = .ok (.bipush 7, 2) := by decide +kernel
theorem dX2_grows_120 : decode cX2_grows 120 = .ok (.if_icmp .eq 14, 3) := by decide +kernel
theorem dX2_grows_123 : decode cX2_grows 123 = .ok (.iload_n 2, 1) := by decide +kernel
theorem dX2_grows_124 : decode cX2_grows 124 = .ok (.bipush 8, 2) := by decide +kernel
theorem dX2_grows_126 : decode cX2_grows 126 = .ok (.if_icmp .ne 12, 3) := by decide +kernel
theorem dX2_grows_129 : decode cX2_grows 129 = .ok (.iload 5, 2) := by decide +kernel
theorem dX2_grows_131 : decode cX2_grows 131 = .ok (.ifCond .eq 7, 3) := by decide +kernel
theorem dX2_grows_134 : decode cX2_grows 134 = .ok (.iload_n 3, 1) := by decide +kernel
theorem dX2_grows_135 : decode cX2_grows 135 = .ok (.goto 5, 3) := by decide +kernel
theorem dX2_grows_138 : decode cX2_grows 138 = .ok (.iload 4, 2) := by decide +kernel
theorem dX2_grows_140 : decode cX2_grows 140 = .ok (.iload_n 2, 1) := by decide +kernel
theorem dX2_grows_141 : decode cX2_grows 141 = .ok (.bipush 8, 2) := by decide +kernel
theorem dX2_grows_143 : decode cX2_grows 143 = .ok (.if_icmp .ne 12, 3) := by decide +kernel
theorem dX2_grows_146 : decode cX2_grows 146 = .ok (.iload 5, 2) := by decide +kernel
theorem dX2_grows_148 : decode cX2_grows 148 = .ok (.ifCond .eq 7, 3) := by decide +kernel
theorem dX2_grows_151 : decode cX2_grows 151 = .ok (.iload_n 3, 1) := by decide +kernel
theorem dX2_grows_152 : decode cX2_grows 152 = .ok (.goto 5, 3) := by decide +kernel
theorem dX2_grows_155 : decode cX2_grows 155 = .ok (.iload 4, 2) := by decide +kernel
theorem dX2_grows_157 : decode cX2_grows 157 = .ok (.invokevirtual 53, 3) := by decide +kernel
theorem dX2_grows_160 : decode cX2_grows 160 = .ok (.iconst 1, 1) := by decide +kernel
theorem dX2_grows_161 : decode cX2_grows 161 = .ok (.ireturn, 1) := by decide +kernel
theorem dX2_grows_162 : decode cX2_grows 162 = .ok (.iconst 0, 1) := by decide +kernel
theorem dX2_grows_163 : decode cX2_grows 163 = .ok (.ireturn, 1) := by decide +kernel
theorem dX2_grows_164 : decode cX2_grows 164 = .ok (.iload_n 2, 1) := by decide +kernel
theorem dX2_grows_165 : decode cX2_grows 165 = .ok (.bipush 7, 2) := by decide +kernel
theorem dX2_grows_167 : decode cX2_grows 167 = .ok (.if_icmp .ne 30, 3) := by decide +kernel
theorem dX2_grows_170 : decode cX2_grows 170 = .ok (.iload 5, 2) := by decide +kernel
theorem dX2_grows_172 : decode cX2_grows 172 = .ok (.ifCond .eq 8, 3) := by decide +kernel
theorem dX2_grows_175 : decode cX2_grows 175 = .ok (.iload 6, 2) := by decide +kernel
theorem dX2_grows_177 : decode cX2_grows 177 = .ok (.ifCond .ne 20, 3) := by decide +kernel
theorem dX2_grows_180 : decode cX2_grows 180 = .ok (.aload_n 0, 1) := by decide +kernel
theorem dX2_grows_181 : decode cX2_grows 181 = .ok (.iload_n 3, 1) := by decide +kernel
theorem dX2_grows_182 : decode cX2_grows 182 = .ok (.iload_n 1, 1) := by decide +kernel
theorem dX2_grows_183 : decode cX2_grows 183 = .ok (.iload_n 1, 1) := by decide +kernel
theorem dX2_grows_184 : decode cX2_grows 184 = .ok (.invokevirtual 53, 3) := by decide +kernel
theorem dX2_grows_187 : decode cX2_grows 187 = .ok (.aload_n 0, 1) := by decide +kernel
theorem dX2_grows_188 : decode cX2_grows 188 = .ok (.iload 4, 2) := by decide +kernel
theorem dX2_grows_190 : decode cX2_grows 190 = .ok (.iload_n 1, 1) := by decide +kernel
theorem dX2_grows_191 : decode cX2_grows 191 = .ok (.iload_n 1, 1) := by decide +kernel
theorem dX2_grows_192 : decode cX2_grows 192 = .ok (.invokevirtual 53, 3) := by decide +kernel
theorem dX2_grows_195 : decode cX2_grows 195 = .ok (.iconst 1, 1) := by decide +kernel
theorem dX2_grows_196 : decode cX2_grows 196 = .ok (.ireturn, 1) := by decide +kernel
theorem dX2_grows_197 : decode cX2_grows 197 = .ok (.aload_n 0, 1) := by decide +kernel
theorem dX2_grows_198 : decode cX2_grows 198 = .ok (.getfield 33, 3) := by decide +kernel
theorem dX2_grows_201 : decode cX2_grows 201 = .ok (.iload_n 1, 1) := by decide +kernel
theorem dX2_grows_202 : decode cX2_grows 202 = .ok (.invokevirtual 87, 3) := by decide +kernel
theorem dX2_grows_205 : decode cX2_grows 205 = .ok (.ifCond .eq 23, 3) := by decide +kernel
theorem dX2_grows_208 : decode cX2_grows 208 = .ok (.iload 5, 2) := by decide +kernel
theorem dX2_grows_210 : decode cX2_grows 210 = .ok (.ifCond .eq 18, 3) := by decide +kernel
theorem dX2_grows_213 : decode cX2_grows 213 = .ok (.iload 6, 2) := by decide +kernel
theorem dX2_grows_215 : decode cX2_grows 215 = .ok (.ifCond .ne 13, 3) := by decide +kernel
theorem dX2_grows_218 : decode cX2_grows 218 = .ok (.aload_n 0, 1) := by decide +kernel
theorem dX2_grows_219 : decode cX2_grows 219 = .ok (.iload 4, 2) := by decide +kernel
theorem dX2_grows_221 : decode cX2_grows 221 = .ok (.iload_n 1, 1) := by decide +kernel
theorem dX2_grows_222 : decode cX2_grows 222 = .ok (.iload_n 3, 1) := by decide +kernel
theorem dX2_grows_223 : decode cX2_grows 223 = .ok (.invokevirtual 53, 3) := by decide +kernel
theorem dX2_grows_226 : decode cX2_grows 226 = .ok (.iconst 1, 1) := by decide +kernel
theorem dX2_grows_227 : decode cX2_grows 227 = .ok (.ireturn, 1) := by decide +kernel
theorem dX2_grows_228 : decode cX2_grows 228 = .ok (.iconst 0, 1) := by decide +kernel
theorem dX2_grows_229 : decode cX2_grows 229 = .ok (.ireturn, 1) := by decide +kernel
theorem dX3_init_0 : decode cX3_init 0 = .ok (.aload_n 0, 1) := by decide +kernel
theorem dX3_init_1 : decode cX3_init 1 = .ok (.invokespecial 1, 3) := by decide +kernel
theorem dX3_init_4 : decode cX3_init 4 = .ok (.aload_n 0, 1) := by decide +kernel
theorem dX3_init_5 : decode cX3_init 5 = .ok (.iconst 3, 1) := by decide +kernel
theorem dX3_init_6 : decode cX3_init 6 = .ok (.iconst 0, 1) := by decide +kernel
theorem dX3_init_7 : decode cX3_init 7 = .ok (.iload_n 1, 1) := by decide +kernel
theorem dX3_init_8 : decode cX3_init 8 = .ok (.invokestatic 9, 3) := by decide +kernel
theorem dX3_init_11 : decode cX3_init 11 = .ok (.imul, 1) := by decide +kernel
theorem dX3_init_12 : decode cX3_init 12 = .ok (.newarray .long, 2) := by decide +kernel
theorem dX3_init_14 : decode cX3_init 14 = .ok (.putfield 15, 3) := by decide +kernel
theorem dX3_init_17 : decode cX3_init 17 = .ok (.return_, 1) := by decide +kernel
theorem dX3_has_0 : decode cX3_has 0 = .ok (.iconst 3, 1) := by decide +kernel
theorem dX3_has_1 : decode cX3_has 1 = .ok (.iload_n 1, 1) := by decide +kernel
theorem dX3_has_2 : decode cX3_has 2 = .ok (.imul, 1) := by decide +kernel
theorem dX3_has_3 : decode cX3_has 3 = .ok (.iload_n 2, 1) := by decide +kernel
theorem dX3_has_4 : decode cX3_has 4 = .ok (.bipush 6, 2) := by decide +kernel
theorem dX3_has_6 : decode cX3_has 6 = .ok (.ishr, 1) := by decide +kernel
theorem dX3_has_7 : decode cX3_has 7 = .ok (.iadd, 1) := by decide +kernel
theorem dX3_has_8 : decode cX3_has 8 = .ok (.istore_n 3, 1) := by decide +kernel
theorem dX3_has_9 : decode cX3_has 9 = .ok (.iload_n 3, 1) := by decide +kernel
theorem dX3_has_10 : decode cX3_has 10 = .ok (.ifCond .lt 34, 3) := by decide +kernel
theorem dX3_has_13 : decode cX3_has 13 = .ok (.iload_n 3, 1) := by decide +kernel
theorem dX3_has_14 : decode cX3_has 14 = .ok (.aload_n 0, 1) := by decide +kernel
theorem dX3_has_15 : decode cX3_has 15 = .ok (.getfield 15, 3) := by decide +kernel
theorem dX3_has_18 : decode cX3_has 18 = .ok (.arraylength, 1) := by decide +kernel
theorem dX3_has_19 : decode cX3_has 19 = .ok (.if_icmp .ge 25, 3) := by decide +kernel
theorem dX3_has_22 : decode cX3_has 22 = .ok (.aload_n 0, 1) := by decide +kernel
theorem dX3_has_23 : decode cX3_has 23 = .ok (.getfield 15, 3) := by decide +kernel
theorem dX3_has_26 : decode cX3_has 26 = .ok (.iload_n 3, 1) := by decide +kernel
theorem dX3_has_27 : decode cX3_has 27 = .ok (.laload, 1) := by decide +kernel
theorem dX3_has_28 : decode cX3_has 28 = .ok (.iload_n 2, 1) := by decide +kernel
theorem dX3_has_29 : decode cX3_has 29 = .ok (.bipush 63, 2) := by decide +kernel
theorem dX3_has_31 : decode cX3_has 31 = .ok (.iand, 1) := by decide +kernel
theorem dX3_has_32 : decode cX3_has 32 = .ok (.lushr, 1) := by decide +kernel
theorem dX3_has_33 : decode cX3_has 33 = .ok (.lconst 1, 1) := by decide +kernel
theorem dX3_has_34 : decode cX3_has 34 = .ok (.land, 1) := by decide +kernel
theorem dX3_has_35 : decode cX3_has 35 = .ok (.lconst 0, 1) := by decide +kernel
theorem dX3_has_36 : decode cX3_has 36 = .ok (.lcmp, 1) := by decide +kernel
theorem dX3_has_37 : decode cX3_has 37 = .ok (.ifCond .eq 7, 3) := by decide +kernel
theorem dX3_has_40 : decode cX3_has 40 = .ok (.iconst 1, 1) := by decide +kernel
theorem dX3_has_41 : decode cX3_has 41 = .ok (.goto 4, 3) := by decide +kernel
theorem dX3_has_44 : decode cX3_has 44 = .ok (.iconst 0, 1) := by decide +kernel
theorem dX3_has_45 : decode cX3_has 45 = .ok (.ireturn, 1) := by decide +kernel
theorem dX3_add_0 : decode cX3_add 0 = .ok (.iconst 3, 1) := by decide +kernel
theorem dX3_add_1 : decode cX3_add 1 = .ok (.iload_n 1, 1) := by decide +kernel
theorem dX3_add_2 : decode cX3_add 2 = .ok (.imul, 1) := by decide +kernel
theorem dX3_add_3 : decode cX3_add 3 = .ok (.iload_n 2, 1) := by decide +kernel
theorem dX3_add_4 : decode cX3_add 4 = .ok (.bipush 6, 2) := by decide +kernel
theorem dX3_add_6 : decode cX3_add 6 = .ok (.ishr, 1) := by decide +kernel
theorem dX3_add_7 : decode cX3_add 7 = .ok (.iadd, 1) := by decide +kernel
theorem dX3_add_8 : decode cX3_add 8 = .ok (.istore_n 3, 1) := by decide +kernel
theorem dX3_add_9 : decode cX3_add 9 = .ok (.iload_n 3, 1) := by decide +kernel
theorem dX3_add_10 : decode cX3_add 10 = .ok (.ifCond .lt 27, 3) := by decide +kernel
theorem dX3_add_13 : decode cX3_add 13 = .ok (.iload_n 3, 1) := by decide +kernel
theorem dX3_add_14 : decode cX3_add 14 = .ok (.aload_n 0, 1) := by decide +kernel
theorem dX3_add_15 : decode cX3_add 15 = .ok (.getfield 15, 3) := by decide +kernel
theorem dX3_add_18 : decode cX3_add 18 = .ok (.arraylength, 1) := by decide +kernel
theorem dX3_add_19 : decode cX3_add 19 = .ok (.if_icmp .ge 18, 3) := by decide +kernel
theorem dX3_add_22 : decode cX3_add 22 = .ok (.aload_n 0, 1) := by decide +kernel
theorem dX3_add_23 : decode cX3_add 23 = .ok (.getfield 15, 3) := by decide +kernel
theorem dX3_add_26 : decode cX3_add 26 = .ok (.iload_n 3, 1) := by decide +kernel
theorem dX3_add_27 : decode cX3_add 27 = .ok (.dup2, 1) := by decide +kernel
theorem dX3_add_28 : decode cX3_add 28 = .ok (.laload, 1) := by decide +kernel
theorem dX3_add_29 : decode cX3_add 29 = .ok (.lconst 1, 1) := by decide +kernel
theorem dX3_add_30 : decode cX3_add 30 = .ok (.iload_n 2, 1) := by decide +kernel
theorem dX3_add_31 : decode cX3_add 31 = .ok (.bipush 63, 2) := by decide +kernel
theorem dX3_add_33 : decode cX3_add 33 = .ok (.iand, 1) := by decide +kernel
theorem dX3_add_34 : decode cX3_add 34 = .ok (.lshl, 1) := by decide +kernel
theorem dX3_add_35 : decode cX3_add 35 = .ok (.lor, 1) := by decide +kernel
theorem dX3_add_36 : decode cX3_add 36 = .ok (.lastore, 1) := by decide +kernel
theorem dX3_add_37 : decode cX3_add 37 = .ok (.return_, 1) := by decide +kernel
theorem dX3_remove_0 : decode cX3_remove 0 = .ok (.iconst 3, 1) := by decide +kernel
theorem dX3_remove_1 : decode cX3_remove 1 = .ok (.iload_n 1, 1) := by decide +kernel
theorem dX3_remove_2 : decode cX3_remove 2 = .ok (.imul, 1) := by decide +kernel
theorem dX3_remove_3 : decode cX3_remove 3 = .ok (.iload_n 2, 1) := by decide +kernel
theorem dX3_remove_4 : decode cX3_remove 4 = .ok (.bipush 6, 2) := by decide +kernel
theorem dX3_remove_6 : decode cX3_remove 6 = .ok (.ishr, 1) := by decide +kernel
theorem dX3_remove_7 : decode cX3_remove 7 = .ok (.iadd, 1) := by decide +kernel
theorem dX3_remove_8 : decode cX3_remove 8 = .ok (.istore_n 3, 1) := by decide +kernel
theorem dX3_remove_9 : decode cX3_remove 9 = .ok (.iload_n 3, 1) := by decide +kernel
theorem dX3_remove_10 : decode cX3_remove 10 = .ok (.ifCond .lt 31, 3) := by decide +kernel
theorem dX3_remove_13 : decode cX3_remove 13 = .ok (.iload_n 3, 1) := by decide +kernel
theorem dX3_remove_14 : decode cX3_remove 14 = .ok (.aload_n 0, 1) := by decide +kernel
theorem dX3_remove_15 : decode cX3_remove 15 = .ok (.getfield 15, 3) := by decide +kernel
theorem dX3_remove_18 : decode cX3_remove 18 = .ok (.arraylength, 1) := by decide +kernel
theorem dX3_remove_19 : decode cX3_remove 19 = .ok (.if_icmp .ge 22, 3) := by decide +kernel
theorem dX3_remove_22 : decode cX3_remove 22 = .ok (.aload_n 0, 1) := by decide +kernel
theorem dX3_remove_23 : decode cX3_remove 23 = .ok (.getfield 15, 3) := by decide +kernel
theorem dX3_remove_26 : decode cX3_remove 26 = .ok (.iload_n 3, 1) := by decide +kernel
theorem dX3_remove_27 : decode cX3_remove 27 = .ok (.dup2, 1) := by decide +kernel
theorem dX3_remove_28 : decode cX3_remove 28 = .ok (.laload, 1) := by decide +kernel
theorem dX3_remove_29 : decode cX3_remove 29 = .ok (.lconst 1, 1) := by decide +kernel
theorem dX3_remove_30 : decode cX3_remove 30 = .ok (.iload_n 2, 1) := by decide +kernel
theorem dX3_remove_31 : decode cX3_remove 31 = .ok (.bipush 63, 2) := by decide +kernel
theorem dX3_remove_33 : decode cX3_remove 33 = .ok (.iand, 1) := by decide +kernel
theorem dX3_remove_34 : decode cX3_remove 34 = .ok (.lshl, 1) := by decide +kernel
theorem dX3_remove_35 : decode cX3_remove 35 = .ok (.ldc2_w 19, 3) := by decide +kernel
theorem dX3_remove_38 : decode cX3_remove 38 = .ok (.lxor, 1) := by decide +kernel
theorem dX3_remove_39 : decode cX3_remove 39 = .ok (.land, 1) := by decide +kernel
theorem dX3_remove_40 : decode cX3_remove 40 = .ok (.lastore, 1) := by decide +kernel
theorem dX3_remove_41 : decode cX3_remove 41 = .ok (.return_, 1) := by decide +kernel
theorem dX3_fill_0 : decode cX3_fill 0 = .ok (.iconst 3, 1) := by decide +kernel
theorem dX3_fill_1 : decode cX3_fill 1 = .ok (.iload_n 1, 1) := by decide +kernel
theorem dX3_fill_2 : decode cX3_fill 2 = .ok (.imul, 1) := by decide +kernel
theorem dX3_fill_3 : decode cX3_fill 3 = .ok (.istore_n 3, 1) := by decide +kernel
theorem dX3_fill_4 : decode cX3_fill 4 = .ok (.iconst 0, 1) := by decide +kernel
theorem dX3_fill_5 : decode cX3_fill 5 = .ok (.istore 4, 2) := by decide +kernel
theorem dX3_fill_7 : decode cX3_fill 7 = .ok (.iload 4, 2) := by decide +kernel
theorem dX3_fill_9 : decode cX3_fill 9 = .ok (.iconst 3, 1) := by decide +kernel
theorem dX3_fill_10 : decode cX3_fill 10 = .ok (.if_icmp .ge 48, 3) := by decide +kernel
theorem dX3_fill_13 : decode cX3_fill 13 = .ok (.iload_n 3, 1) := by decide +kernel
theorem dX3_fill_14 : decode cX3_fill 14 = .ok (.iload 4, 2) := by decide +kernel
theorem dX3_fill_16 : decode cX3_fill 16 = .ok (.iadd, 1) := by decide +kernel
theorem dX3_fill_17 : decode cX3_fill 17 = .ok (.ifCond .lt 35, 3) := by decide +kernel
theorem dX3_fill_20 : decode cX3_fill 20 = .ok (.iload_n 3, 1) := by decide +kernel
theorem dX3_fill_21 : decode cX3_fill 21 = .ok (.iload 4, 2) := by decide +kernel
theorem dX3_fill_23 : decode cX3_fill 23 = .ok (.iadd, 1) := by decide +kernel
theorem dX3_fill_24 : decode cX3_fill 24 = .ok (.aload_n 0, 1) := by decide +kernel
theorem dX3_fill_25 : decode cX3_fill 25 = .ok (.getfield 15, 3) := by decide +kernel
theorem dX3_fill_28 : decode cX3_fill 28 = .ok (.arraylength, 1) := by decide +kernel
theorem dX3_fill_29 : decode cX3_fill 29 = .ok (.if_icmp .ge 23, 3) := by decide +kernel
theorem dX3_fill_32 : decode cX3_fill 32 = .ok (.aload_n 0, 1) := by decide +kernel
theorem dX3_fill_33 : decode cX3_fill 33 = .ok (.getfield 15, 3) := by decide +kernel
theorem dX3_fill_36 : decode cX3_fill 36 = .ok (.iload_n 3, 1) := by decide +kernel
theorem dX3_fill_37 : decode cX3_fill 37 = .ok (.iload 4, 2) := by decide +kernel
theorem dX3_fill_39 : decode cX3_fill 39 = .ok (.iadd, 1) := by decide +kernel
theorem dX3_fill_40 : decode cX3_fill 40 = .ok (.iload_n 2, 1) := by decide +kernel
theorem dX3_fill_41 : decode cX3_fill 41 = .ok (.ifCond .eq 9, 3) := by decide +kernel
theorem dX3_fill_44 : decode cX3_fill 44 = .ok (.ldc2_w 19, 3) := by decide +kernel
theorem dX3_fill_47 : decode cX3_fill 47 = .ok (.goto 4, 3) := by decide +kernel
theorem dX3_fill_50 : decode cX3_fill 50 = .ok (.lconst 0, 1) := by decide +kernel
theorem dX3_fill_51 : decode cX3_fill 51 = .ok (.lastore, 1) := by decide +kernel
theorem dX3_fill_52 : decode cX3_fill 52 = .ok (.iinc 4 1, 3) := by decide +kernel
theorem dX3_fill_55 : decode cX3_fill 55 = .ok (.goto (-48), 3) := by decide +kernel
theorem dX3_fill_58 : decode cX3_fill 58 = .ok (.return_, 1) := by decide +kernel
set_option maxRecDepth 20000 in
theorem ggX3_copy_X3_word : GoodIn wsX3_copy wsX3_word := goodIn_r _ [5, 6, 11] (by decide +kernel) (by decide +kernel)
set_option maxRecDepth 20000 in
theorem gX3_copy_X3_word : GoodIn wsX3_copy (wsV RX3 21 RX3 yX3_word wsX3_word) := goodIn_app (goodIn_of _ (by decide +kernel)) ggX3_copy_X3_word
set_option maxRecDepth 20000 in
theorem ggX3_copy_X3_write : GoodIn wsX3_copy wsX3_write := goodIn_r _ [10, 6, 11] (by decide +kernel) (by decide +kernel)
set_option maxRecDepth 20000 in
theorem gX3_copy_X3_write : GoodIn wsX3_copy (wsV RX3 25 RX3 yX3_write wsX3_write) := goodIn_app (goodIn_of _ (by decide +kernel)) ggX3_copy_X3_write
theorem dX3_copy_0 : decode cX3_copy 0 = .ok (.iconst 0, 1) := by decide +kernel
theorem dX3_copy_1 : decode cX3_copy 1 = .ok (.istore 4, 2) := by decide +kernel
theorem dX3_copy_3 : decode cX3_copy 3 = .ok (.iload 4, 2) := by decide +kernel
theorem dX3_copy_5 : decode cX3_copy 5 = .ok (.iconst 3, 1) := by decide +kernel
theorem dX3_copy_6 : decode cX3_copy 6 = .ok (.if_icmp .ge 23, 3) := by decide +kernel
theorem dX3_copy_9 : decode cX3_copy 9 = .ok (.aload_n 0, 1) := by decide +kernel
theorem dX3_copy_10 : decode cX3_copy 10 = .ok (.iload_n 1, 1) := by decide +kernel
theorem dX3_copy_11 : decode cX3_copy 11 = .ok (.iload 4, 2) := by decide +kernel
theorem dX3_copy_13 : decode cX3_copy 13 = .ok (.aload_n 2, 1) := by decide +kernel
theorem dX3_copy_14 : decode cX3_copy 14 = .ok (.iload_n 3, 1) := by decide +kernel
theorem dX3_copy_15 : decode cX3_copy 15 = .ok (.iload 4, 2) := by decide +kernel
theorem dX3_copy_17 : decode cX3_copy 17 = .ok (.invokevirtual 21, 3) := by decide +kernel
theorem dX3_copy_20 : decode cX3_copy 20 = .ok (.invokevirtual 25, 3) := by decide +kernel
theorem dX3_copy_23 : decode cX3_copy 23 = .ok (.iinc 4 1, 3) := by decide +kernel
theorem dX3_copy_26 : decode cX3_copy 26 = .ok (.goto (-23), 3) := by decide +kernel
theorem dX3_copy_29 : decode cX3_copy 29 = .ok (.return_, 1) := by decide +kernel
set_option maxRecDepth 20000 in
theorem ggX3_unite_X3_word : GoodIn wsX3_unite wsX3_word := goodIn_r _ [5, 6, 11] (by decide +kernel) (by decide +kernel)
set_option maxRecDepth 20000 in
theorem gX3_unite_X3_word : GoodIn wsX3_unite (wsV RX3 21 RX3 yX3_word wsX3_word) := goodIn_app (goodIn_of _ (by decide +kernel)) ggX3_unite_X3_word
set_option maxRecDepth 20000 in
theorem ggX3_unite_X3_write : GoodIn wsX3_unite wsX3_write := goodIn_r _ [10, 6, 11] (by decide +kernel) (by decide +kernel)
set_option maxRecDepth 20000 in
theorem gX3_unite_X3_write : GoodIn wsX3_unite (wsV RX3 25 RX3 yX3_write wsX3_write) := goodIn_app (goodIn_of _ (by decide +kernel)) ggX3_unite_X3_write
theorem dX3_unite_0 : decode cX3_unite 0 = .ok (.iconst 0, 1) := by decide +kernel
theorem dX3_unite_1 : decode cX3_unite 1 = .ok (.istore 4, 2) := by decide +kernel
theorem dX3_unite_3 : decode cX3_unite 3 = .ok (.iload 4, 2) := by decide +kernel
theorem dX3_unite_5 : decode cX3_unite 5 = .ok (.iconst 3, 1) := by decide +kernel
theorem dX3_unite_6 : decode cX3_unite 6 = .ok (.if_icmp .ge 31, 3) := by decide +kernel
theorem dX3_unite_9 : decode cX3_unite 9 = .ok (.aload_n 0, 1) := by decide +kernel
theorem dX3_unite_10 : decode cX3_unite 10 = .ok (.iload_n 1, 1) := by decide +kernel
theorem dX3_unite_11 : decode cX3_unite 11 = .ok (.iload 4, 2) := by decide +kernel
theorem dX3_unite_13 : decode cX3_unite 13 = .ok (.aload_n 0, 1) := by decide +kernel
theorem dX3_unite_14 : decode cX3_unite 14 = .ok (.iload_n 1, 1) := by decide +kernel
theorem dX3_unite_15 : decode cX3_unite 15 = .ok (.iload 4, 2) := by decide +kernel
theorem dX3_unite_17 : decode cX3_unite 17 = .ok (.invokevirtual 21, 3) := by decide +kernel
theorem dX3_unite_20 : decode cX3_unite 20 = .ok (.aload_n 2, 1) := by decide +kernel
theorem dX3_unite_21 : decode cX3_unite 21 = .ok (.iload_n 3, 1) := by decide +kernel
theorem dX3_unite_22 : decode cX3_unite 22 = .ok (.iload 4, 2) := by decide +kernel
theorem dX3_unite_24 : decode cX3_unite 24 = .ok (.invokevirtual 21, 3) := by decide +kernel
theorem dX3_unite_27 : decode cX3_unite 27 = .ok (.lor, 1) := by decide +kernel
theorem dX3_unite_28 : decode cX3_unite 28 = .ok (.invokevirtual 25, 3) := by decide +kernel
theorem dX3_unite_31 : decode cX3_unite 31 = .ok (.iinc 4 1, 3) := by decide +kernel
theorem dX3_unite_34 : decode cX3_unite 34 = .ok (.goto (-31), 3) := by decide +kernel
theorem dX3_unite_37 : decode cX3_unite 37 = .ok (.return_, 1) := by decide +kernel
set_option maxRecDepth 20000 in
theorem ggX3_keepOnly_X3_word : GoodIn wsX3_keepOnly wsX3_word := goodIn_r _ [5, 6, 11] (by decide +kernel) (by decide +kernel)
set_option maxRecDepth 20000 in
theorem gX3_keepOnly_X3_word : GoodIn wsX3_keepOnly (wsV RX3 21 RX3 yX3_word wsX3_word) := goodIn_app (goodIn_of _ (by decide +kernel)) ggX3_keepOnly_X3_word
set_option maxRecDepth 20000 in
theorem ggX3_keepOnly_X3_write : GoodIn wsX3_keepOnly wsX3_write := goodIn_r _ [10, 6, 11] (by decide +kernel) (by decide +kernel)
set_option maxRecDepth 20000 in
theorem gX3_keepOnly_X3_write : GoodIn wsX3_keepOnly (wsV RX3 25 RX3 yX3_write wsX3_write) := goodIn_app (goodIn_of _ (by decide +kernel)) ggX3_keepOnly_X3_write
theorem dX3_keepOnly_0 : decode cX3_keepOnly 0 = .ok (.iconst 0, 1) := by decide +kernel
theorem dX3_keepOnly_1 : decode cX3_keepOnly 1 = .ok (.istore 4, 2) := by decide +kernel
theorem dX3_keepOnly_3 : decode cX3_keepOnly 3 = .ok (.iload 4, 2) := by decide +kernel
theorem dX3_keepOnly_5 : decode cX3_keepOnly 5 = .ok (.iconst 3, 1) := by decide +kernel
theorem dX3_keepOnly_6 : decode cX3_keepOnly 6 = .ok (.if_icmp .ge 31, 3) := by decide +kernel
theorem dX3_keepOnly_9 : decode cX3_keepOnly 9 = .ok (.aload_n 0, 1) := by decide +kernel
theorem dX3_keepOnly_10 : decode cX3_keepOnly 10 = .ok (.iload_n 1, 1) := by decide +kernel
theorem dX3_keepOnly_11 : decode cX3_keepOnly 11 = .ok (.iload 4, 2) := by decide +kernel
theorem dX3_keepOnly_13 : decode cX3_keepOnly 13 = .ok (.aload_n 0, 1) := by decide +kernel
theorem dX3_keepOnly_14 : decode cX3_keepOnly 14 = .ok (.iload_n 1, 1) := by decide +kernel
theorem dX3_keepOnly_15 : decode cX3_keepOnly 15 = .ok (.iload 4, 2) := by decide +kernel
theorem dX3_keepOnly_17 : decode cX3_keepOnly 17 = .ok (.invokevirtual 21, 3) := by decide +kernel
theorem dX3_keepOnly_20 : decode cX3_keepOnly 20 = .ok (.aload_n 2, 1) := by decide +kernel
theorem dX3_keepOnly_21 : decode cX3_keepOnly 21 = .ok (.iload_n 3, 1) := by decide +kernel
theorem dX3_keepOnly_22 : decode cX3_keepOnly 22 = .ok (.iload 4, 2) := by decide +kernel
theorem dX3_keepOnly_24 : decode cX3_keepOnly 24 = .ok (.invokevirtual 21, 3) := by decide +kernel
theorem dX3_keepOnly_27 : decode cX3_keepOnly 27 = .ok (.land, 1) := by decide +kernel
theorem dX3_keepOnly_28 : decode cX3_keepOnly 28 = .ok (.invokevirtual 25, 3) := by decide +kernel
theorem dX3_keepOnly_31 : decode cX3_keepOnly 31 = .ok (.iinc 4 1, 3) := by decide +kernel
theorem dX3_keepOnly_34 : decode cX3_keepOnly 34 = .ok (.goto (-31), 3) := by decide +kernel
theorem dX3_keepOnly_37 : decode cX3_keepOnly 37 = .ok (.return_, 1) := by decide +kernel
set_option maxRecDepth 20000 in
theorem ggX3_isWithin_X3_word : GoodIn wsX3_isWithin wsX3_word := goodIn_r _ [6, 7, 8] (by decide +kernel) (by decide +kernel)
set_option maxRecDepth 20000 in
theorem gX3_isWithin_X3_word : GoodIn wsX3_isWithin (wsV RX3 21 RX3 yX3_word wsX3_word) := goodIn_app (goodIn_of _ (by decide +kernel)) ggX3_isWithin_X3_word
theorem dX3_isWithin_0 : decode cX3_isWithin 0 = .ok (.iconst 0, 1) := by decide +kernel
theorem dX3_isWithin_1 : decode cX3_isWithin 1 = .ok (.istore 4, 2) := by decide +kernel
theorem dX3_isWithin_3 : decode cX3_isWithin 3 = .ok (.iload 4, 2) := by decide +kernel
theorem dX3_isWithin_5 : decode cX3_isWithin 5 = .ok (.iconst 3, 1) := by decide +kernel
theorem dX3_isWithin_6 : decode cX3_isWithin 6 = .ok (.if_icmp .ge 35, 3) := by decide +kernel
theorem dX3_isWithin_9 : decode cX3_isWithin 9 = .ok (.aload_n 0, 1) := by decide +kernel
theorem dX3_isWithin_10 : decode cX3_isWithin 10 = .ok (.iload_n 1, 1) := by decide +kernel
theorem dX3_isWithin_11 : decode cX3_isWithin 11 = .ok (.iload 4, 2) := by decide +kernel
theorem dX3_isWithin_13 : decode cX3_isWithin 13 = .ok (.invokevirtual 21, 3) := by decide +kernel
theorem dX3_isWithin_16 : decode cX3_isWithin 16 = .ok (.aload_n 2, 1) := by decide +kernel
theorem dX3_isWithin_17 : decode cX3_isWithin 17 = .ok (.iload_n 3, 1) := by decide +kernel
theorem dX3_isWithin_18 : decode cX3_isWithin 18 = .ok (.iload 4, 2) := by decide +kernel
theorem dX3_isWithin_20 : decode cX3_isWithin 20 = .ok (.invokevirtual 21, 3) := by decide +kernel
theorem dX3_isWithin_23 : decode cX3_isWithin 23 = .ok (.ldc2_w 19, 3) := by decide +kernel
theorem dX3_isWithin_26 : decode cX3_isWithin 26 = .ok (.lxor, 1) := by decide +kernel
theorem dX3_isWithin_27 : decode cX3_isWithin 27 = .ok (.land, 1) := by decide +kernel
theorem dX3_isWithin_28 : decode cX3_isWithin 28 = .ok (.lconst 0, 1) := by decide +kernel
theorem dX3_isWithin_29 : decode cX3_isWithin 29 = .ok (.lcmp, 1) := by decide +kernel
theorem dX3_isWithin_30 : decode cX3_isWithin 30 = .ok (.ifCond .eq 5, 3) := by decide +kernel
theorem dX3_isWithin_33 : decode cX3_isWithin 33 = .ok (.iconst 0, 1) := by decide +kernel
theorem dX3_isWithin_34 : decode cX3_isWithin 34 = .ok (.ireturn, 1) := by decide +kernel
theorem dX3_isWithin_35 : decode cX3_isWithin 35 = .ok (.iinc 4 1, 3) := by decide +kernel
theorem dX3_isWithin_38 : decode cX3_isWithin 38 = .ok (.goto (-35), 3) := by decide +kernel
theorem dX3_isWithin_41 : decode cX3_isWithin 41 = .ok (.iconst 1, 1) := by decide +kernel
theorem dX3_isWithin_42 : decode cX3_isWithin 42 = .ok (.ireturn, 1) := by decide +kernel
theorem dX3_word_0 : decode cX3_word 0 = .ok (.iconst 3, 1) := by decide +kernel
theorem dX3_word_1 : decode cX3_word 1 = .ok (.iload_n 1, 1) := by decide +kernel
theorem dX3_word_2 : decode cX3_word 2 = .ok (.imul, 1) := by decide +kernel
theorem dX3_word_3 : decode cX3_word 3 = .ok (.iload_n 2, 1) := by decide +kernel
theorem dX3_word_4 : decode cX3_word 4 = .ok (.iadd, 1) := by decide +kernel
theorem dX3_word_5 : decode cX3_word 5 = .ok (.istore_n 3, 1) := by decide +kernel
theorem dX3_word_6 : decode cX3_word 6 = .ok (.iload_n 3, 1) := by decide +kernel
theorem dX3_word_7 : decode cX3_word 7 = .ok (.ifCond .lt 21, 3) := by decide +kernel
theorem dX3_word_10 : decode cX3_word 10 = .ok (.iload_n 3, 1) := by decide +kernel
theorem dX3_word_11 : decode cX3_word 11 = .ok (.aload_n 0, 1) := by decide +kernel
theorem dX3_word_12 : decode cX3_word 12 = .ok (.getfield 15, 3) := by decide +kernel
theorem dX3_word_15 : decode cX3_word 15 = .ok (.arraylength, 1) := by decide +kernel
theorem dX3_word_16 : decode cX3_word 16 = .ok (.if_icmp .ge 12, 3) := by decide +kernel
theorem dX3_word_19 : decode cX3_word 19 = .ok (.aload_n 0, 1) := by decide +kernel
theorem dX3_word_20 : decode cX3_word 20 = .ok (.getfield 15, 3) := by decide +kernel
theorem dX3_word_23 : decode cX3_word 23 = .ok (.iload_n 3, 1) := by decide +kernel
theorem dX3_word_24 : decode cX3_word 24 = .ok (.laload, 1) := by decide +kernel
theorem dX3_word_25 : decode cX3_word 25 = .ok (.goto 4, 3) := by decide +kernel
theorem dX3_word_28 : decode cX3_word 28 = .ok (.lconst 0, 1) := by decide +kernel
theorem dX3_word_29 : decode cX3_word 29 = .ok (.lreturn, 1) := by decide +kernel
theorem dX3_write_0 : decode cX3_write 0 = .ok (.iconst 3, 1) := by decide +kernel
theorem dX3_write_1 : decode cX3_write 1 = .ok (.iload_n 1, 1) := by decide +kernel
theorem dX3_write_2 : decode cX3_write 2 = .ok (.imul, 1) := by decide +kernel
theorem dX3_write_3 : decode cX3_write 3 = .ok (.iload_n 2, 1) := by decide +kernel
theorem dX3_write_4 : decode cX3_write 4 = .ok (.iadd, 1) := by decide +kernel
theorem dX3_write_5 : decode cX3_write 5 = .ok (.istore 5, 2) := by decide +kernel
theorem dX3_write_7 : decode cX3_write 7 = .ok (.iload 5, 2) := by decide +kernel
theorem dX3_write_9 : decode cX3_write 9 = .ok (.ifCond .lt 21, 3) := by decide +kernel
theorem dX3_write_12 : decode cX3_write 12 = .ok (.iload 5, 2) := by decide +kernel
theorem dX3_write_14 : decode cX3_write 14 = .ok (.aload_n 0, 1) := by decide +kernel
theorem dX3_write_15 : decode cX3_write 15 = .ok (.getfield 15, 3) := by decide +kernel
theorem dX3_write_18 : decode cX3_write 18 = .ok (.arraylength, 1) := by decide +kernel
theorem dX3_write_19 : decode cX3_write 19 = .ok (.if_icmp .ge 11, 3) := by decide +kernel
theorem dX3_write_22 : decode cX3_write 22 = .ok (.aload_n 0, 1) := by decide +kernel
theorem dX3_write_23 : decode cX3_write 23 = .ok (.getfield 15, 3) := by decide +kernel
theorem dX3_write_26 : decode cX3_write 26 = .ok (.iload 5, 2) := by decide +kernel
theorem dX3_write_28 : decode cX3_write 28 = .ok (.lload_n 3, 1) := by decide +kernel
theorem dX3_write_29 : decode cX3_write 29 = .ok (.lastore, 1) := by decide +kernel
theorem dX3_write_30 : decode cX3_write 30 = .ok (.return_, 1) := by decide +kernel
theorem dX4_init_0 : decode cX4_init 0 = .ok (.aload_n 0, 1) := by decide +kernel
theorem dX4_init_1 : decode cX4_init 1 = .ok (.invokespecial 5, 3) := by decide +kernel
theorem dX4_init_4 : decode cX4_init 4 = .ok (.aload_n 0, 1) := by decide +kernel
theorem dX4_init_5 : decode cX4_init 5 = .ok (.bipush 6, 2) := by decide +kernel
theorem dX4_init_7 : decode cX4_init 7 = .ok (.putfield 11, 3) := by decide +kernel
theorem dX4_init_10 : decode cX4_init 10 = .ok (.aload_n 0, 1) := by decide +kernel
theorem dX4_init_11 : decode cX4_init 11 = .ok (.sipush 151, 3) := by decide +kernel
theorem dX4_init_14 : decode cX4_init 14 = .ok (.newarray .int, 2) := by decide +kernel
theorem dX4_init_16 : decode cX4_init 16 = .ok (.putfield 15, 3) := by decide +kernel
theorem dX4_init_19 : decode cX4_init 19 = .ok (.aload_n 0, 1) := by decide +kernel
theorem dX4_init_20 : decode cX4_init 20 = .ok (.sipush 151, 3) := by decide +kernel
theorem dX4_init_23 : decode cX4_init 23 = .ok (.newarray .int, 2) := by decide +kernel
theorem dX4_init_25 : decode cX4_init 25 = .ok (.putfield 19, 3) := by decide +kernel
theorem dX4_init_28 : decode cX4_init 28 = .ok (.aload_n 0, 1) := by decide +kernel
theorem dX4_init_29 : decode cX4_init 29 = .ok (.sipush 151, 3) := by decide +kernel
theorem dX4_init_32 : decode cX4_init 32 = .ok (.newarray .int, 2) := by decide +kernel
theorem dX4_init_34 : decode cX4_init 34 = .ok (.putfield 22, 3) := by decide +kernel
theorem dX4_init_37 : decode cX4_init 37 = .ok (.aload_n 0, 1) := by decide +kernel
theorem dX4_init_38 : decode cX4_init 38 = .ok (.iconst 5, 1) := by decide +kernel
theorem dX4_init_39 : decode cX4_init 39 = .ok (.newarray .int, 2) := by decide +kernel
theorem dX4_init_41 : decode cX4_init 41 = .ok (.putfield 25, 3) := by decide +kernel
theorem dX4_init_44 : decode cX4_init 44 = .ok (.aload_n 0, 1) := by decide +kernel
theorem dX4_init_45 : decode cX4_init 45 = .ok (.iconst 0, 1) := by decide +kernel
theorem dX4_init_46 : decode cX4_init 46 = .ok (.putfield 28, 3) := by decide +kernel
theorem dX4_init_49 : decode cX4_init 49 = .ok (.aload_n 0, 1) := by decide +kernel
theorem dX4_init_50 : decode cX4_init 50 = .ok (.bipush 30, 2) := by decide +kernel
theorem dX4_init_52 : decode cX4_init 52 = .ok (.newarray .int, 2) := by decide +kernel
theorem dX4_init_54 : decode cX4_init 54 = .ok (.putfield 31, 3) := by decide +kernel
theorem dX4_init_57 : decode cX4_init 57 = .ok (.aload_n 0, 1) := by decide +kernel
theorem dX4_init_58 : decode cX4_init 58 = .ok (.sipush 151, 3) := by decide +kernel
theorem dX4_init_61 : decode cX4_init 61 = .ok (.newarray .int, 2) := by decide +kernel
theorem dX4_init_63 : decode cX4_init 63 = .ok (.putfield 34, 3) := by decide +kernel
theorem dX4_init_66 : decode cX4_init 66 = .ok (.iconst 0, 1) := by decide +kernel
theorem dX4_init_67 : decode cX4_init 67 = .ok (.istore_n 1, 1) := by decide +kernel
theorem dX4_init_68 : decode cX4_init 68 = .ok (.iload_n 1, 1) := by decide +kernel
theorem dX4_init_69 : decode cX4_init 69 = .ok (.bipush 6, 2) := by decide +kernel
theorem dX4_init_71 : decode cX4_init 71 = .ok (.if_icmp .ge 16, 3) := by decide +kernel
theorem dX4_init_74 : decode cX4_init 74 = .ok (.aload_n 0, 1) := by decide +kernel
theorem dX4_init_75 : decode cX4_init 75 = .ok (.getfield 15, 3) := by decide +kernel
theorem dX4_init_78 : decode cX4_init 78 = .ok (.iload_n 1, 1) := by decide +kernel
theorem dX4_init_79 : decode cX4_init 79 = .ok (.iload_n 1, 1) := by decide +kernel
theorem dX4_init_80 : decode cX4_init 80 = .ok (.iastore, 1) := by decide +kernel
theorem dX4_init_81 : decode cX4_init 81 = .ok (.iinc 1 1, 3) := by decide +kernel
theorem dX4_init_84 : decode cX4_init 84 = .ok (.goto (-16), 3) := by decide +kernel
theorem dX4_init_87 : decode cX4_init 87 = .ok (.return_, 1) := by decide +kernel
set_option maxRecDepth 20000 in
theorem ggX4_take_X9_has : GoodIn wsX4_take wsX9_has := goodIn_r _ [6] (by decide +kernel) (by decide +kernel)
set_option maxRecDepth 20000 in
theorem gX4_take_X9_has_n37 : GoodIn wsX4_take (wsX9_has) := ggX4_take_X9_has
set_option maxRecDepth 20000 in
theorem ggX4_take_X4_add : GoodIn wsX4_take wsX4_add := goodIn_r _ [11, 12, 13, 2, 14, 15, 16, 17, 18, 19, 5, 20, 21, 22, 23, 10, 24, 1, 25, 26, 27, 36, 37, 28, 29, 30, 31, 32, 33, 34, 35] (by decide +kernel) (by decide +kernel)
set_option maxRecDepth 20000 in
theorem gX4_take_X4_add : GoodIn wsX4_take (wsV RX4 41 RX4 yX4_add wsX4_add) := goodIn_app (goodIn_of _ (by decide +kernel)) ggX4_take_X4_add
theorem dX4_take_0 : decode cX4_take 0 = .ok (.aload_n 0, 1) := by decide +kernel
theorem dX4_take_1 : decode cX4_take 1 = .ok (.bipush 6, 2) := by decide +kernel
theorem dX4_take_3 : decode cX4_take 3 = .ok (.putfield 11, 3) := by decide +kernel
theorem dX4_take_6 : decode cX4_take 6 = .ok (.aload_n 0, 1) := by decide +kernel
theorem dX4_take_7 : decode cX4_take 7 = .ok (.iconst 0, 1) := by decide +kernel
theorem dX4_take_8 : decode cX4_take 8 = .ok (.putfield 28, 3) := by decide +kernel
theorem dX4_take_11 : decode cX4_take 11 = .ok (.iconst 0, 1) := by decide +kernel
theorem dX4_take_12 : decode cX4_take 12 = .ok (.istore_n 3, 1) := by decide +kernel
theorem dX4_take_13 : decode cX4_take 13 = .ok (.iload_n 3, 1) := by decide +kernel
theorem dX4_take_14 : decode cX4_take 14 = .ok (.iconst 5, 1) := by decide +kernel
theorem dX4_take_15 : decode cX4_take 15 = .ok (.if_icmp .ge 49, 3) := by decide +kernel
theorem dX4_take_18 : decode cX4_take 18 = .ok (.iload_n 3, 1) := by decide +kernel
theorem dX4_take_19 : decode cX4_take 19 = .ok (.aload_n 1, 1) := by decide +kernel
theorem dX4_take_20 : decode cX4_take 20 = .ok (.arraylength, 1) := by decide +kernel
theorem dX4_take_21 : decode cX4_take 21 = .ok (.if_icmp .ge 43, 3) := by decide +kernel
theorem dX4_take_24 : decode cX4_take 24 = .ok (.aload_n 1, 1) := by decide +kernel
theorem dX4_take_25 : decode cX4_take 25 = .ok (.iload_n 3, 1) := by decide +kernel
theorem dX4_take_26 : decode cX4_take 26 = .ok (.aaload, 1) := by decide +kernel
theorem dX4_take_27 : decode cX4_take 27 = .ok (.astore 4, 2) := by decide +kernel
theorem dX4_take_29 : decode cX4_take 29 = .ok (.aload_n 0, 1) := by decide +kernel
theorem dX4_take_30 : decode cX4_take 30 = .ok (.getfield 25, 3) := by decide +kernel
theorem dX4_take_33 : decode cX4_take 33 = .ok (.iload_n 3, 1) := by decide +kernel
theorem dX4_take_34 : decode cX4_take 34 = .ok (.aload 4, 2) := by decide +kernel
theorem dX4_take_36 : decode cX4_take 36 = .ok (.ifnull 20, 3) := by decide +kernel
theorem dX4_take_39 : decode cX4_take 39 = .ok (.iload_n 2, 1) := by decide +kernel
theorem dX4_take_40 : decode cX4_take 40 = .ok (.iload_n 3, 1) := by decide +kernel
theorem dX4_take_41 : decode cX4_take 41 = .ok (.invokestatic 37, 3) := by decide +kernel
theorem dX4_take_44 : decode cX4_take 44 = .ok (.ifCond .eq 12, 3) := by decide +kernel
theorem dX4_take_47 : decode cX4_take 47 = .ok (.aload_n 0, 1) := by decide +kernel
theorem dX4_take_48 : decode cX4_take 48 = .ok (.aload 4, 2) := by decide +kernel
theorem dX4_take_50 : decode cX4_take 50 = .ok (.invokevirtual 41, 3) := by decide +kernel
theorem dX4_take_53 : decode cX4_take 53 = .ok (.goto 4, 3) := by decide +kernel
theorem dX4_take_56 : decode cX4_take 56 = .ok (.iconst 4, 1) := by decide +kernel
theorem dX4_take_57 : decode cX4_take 57 = .ok (.iastore, 1) := by decide +kernel
theorem dX4_take_58 : decode cX4_take 58 = .ok (.iinc 3 1, 3) := by decide +kernel
theorem dX4_take_61 : decode cX4_take 61 = .ok (.goto (-48), 3) := by decide +kernel
theorem dX4_take_64 : decode cX4_take 64 = .ok (.return_, 1) := by decide +kernel
set_option maxRecDepth 20000 in
theorem ggX4_whole_X9_at : GoodIn wsX4_whole wsX9_at := goodIn_r _ [4] (by decide +kernel) (by decide +kernel)
set_option maxRecDepth 20000 in
theorem gX4_whole_X9_at_n45 : GoodIn wsX4_whole (wsX9_at) := ggX4_whole_X9_at
theorem dX4_whole_0 : decode cX4_whole 0 = .ok (.aload_n 0, 1) := by decide +kernel
theorem dX4_whole_1 : decode cX4_whole 1 = .ok (.getfield 25, 3) := by decide +kernel
theorem dX4_whole_4 : decode cX4_whole 4 = .ok (.iload_n 1, 1) := by decide +kernel
theorem dX4_whole_5 : decode cX4_whole 5 = .ok (.invokestatic 45, 3) := by decide +kernel
theorem dX4_whole_8 : decode cX4_whole 8 = .ok (.ireturn, 1) := by decide +kernel
set_option maxRecDepth 20000 in
theorem ggX4_add_X9_at : GoodIn wsX4_add wsX9_at := goodIn_r _ [11] (by decide +kernel) (by decide +kernel)
set_option maxRecDepth 20000 in
theorem gX4_add_X9_at_n45 : GoodIn wsX4_add (wsX9_at) := ggX4_add_X9_at
set_option maxRecDepth 20000 in
theorem ggX4_add_X4_find : GoodIn wsX4_add wsX4_find := goodIn_r _ [16, 17, 18, 19, 20, 23, 24, 25, 26, 27, 28, 29, 30] (by decide +kernel) (by decide +kernel)
set_option maxRecDepth 20000 in
theorem gX4_add_X4_find : GoodIn wsX4_add (wsV RX4 61 RX4 yX4_find wsX4_find) := goodIn_app (goodIn_of _ (by decide +kernel)) ggX4_add_X4_find
theorem dX4_add_0 : decode cX4_add 0 = .ok (.iconst 0, 1) := by decide +kernel
theorem dX4_add_1 : decode cX4_add 1 = .ok (.istore_n 2, 1) := by decide +kernel
theorem dX4_add_2 : decode cX4_add 2 = .ok (.iconst 0, 1) := by decide +kernel
theorem dX4_add_3 : decode cX4_add 3 = .ok (.istore_n 3, 1) := by decide +kernel
theorem dX4_add_4 : decode cX4_add 4 = .ok (.iload_n 3, 1) := by decide +kernel
theorem dX4_add_5 : decode cX4_add 5 = .ok (.aload_n 1, 1) := by decide +kernel
theorem dX4_add_6 : decode cX4_add 6 = .ok (.getfield 49, 3) := by decide +kernel
theorem dX4_add_9 : decode cX4_add 9 = .ok (.if_icmp .ge 132, 3) := by decide +kernel
theorem dX4_add_12 : decode cX4_add 12 = .ok (.aload_n 1, 1) := by decide +kernel
theorem dX4_add_13 : decode cX4_add 13 = .ok (.getfield 52, 3) := by decide +kernel
theorem dX4_add_16 : decode cX4_add 16 = .ok (.iload_n 3, 1) := by decide +kernel
theorem dX4_add_17 : decode cX4_add 17 = .ok (.iaload, 1) := by decide +kernel
theorem dX4_add_18 : decode cX4_add 18 = .ok (.istore 4, 2) := by decide +kernel
theorem dX4_add_20 : decode cX4_add 20 = .ok (.iload 4, 2) := by decide +kernel
theorem dX4_add_22 : decode cX4_add 22 = .ok (.istore 5, 2) := by decide +kernel
theorem dX4_add_24 : decode cX4_add 24 = .ok (.iload 4, 2) := by decide +kernel
theorem dX4_add_26 : decode cX4_add 26 = .ok (.iconst 5, 1) := by decide +kernel
theorem dX4_add_27 : decode cX4_add 27 = .ok (.if_icmp .gt 19, 3) := by decide +kernel
theorem dX4_add_30 : decode cX4_add 30 = .ok (.aload_n 0, 1) := by decide +kernel
theorem dX4_add_31 : decode cX4_add 31 = .ok (.dup, 1) := by decide +kernel
theorem dX4_add_32 : decode cX4_add 32 = .ok (.getfield 28, 3) := by decide +kernel
theorem dX4_add_35 : decode cX4_add 35 = .ok (.iconst 1, 1) := by decide +kernel
theorem dX4_add_36 : decode cX4_add 36 = .ok (.iload 4, 2) := by decide +kernel
theorem dX4_add_38 : decode cX4_add 38 = .ok (.ishl, 1) := by decide +kernel
theorem dX4_add_39 : decode cX4_add 39 = .ok (.ior, 1) := by decide +kernel
theorem dX4_add_40 : decode cX4_add 40 = .ok (.putfield 28, 3) := by decide +kernel
theorem dX4_add_43 : decode cX4_add 43 = .ok (.goto 72, 3) := by decide +kernel
theorem dX4_add_46 : decode cX4_add 46 = .ok (.iload 4, 2) := by decide +kernel
theorem dX4_add_48 : decode cX4_add 48 = .ok (.bipush 6, 2) := by decide +kernel
theorem dX4_add_50 : decode cX4_add 50 = .ok (.if_icmp .ne 31, 3) := by decide +kernel
theorem dX4_add_53 : decode cX4_add 53 = .ok (.iconst 0, 1) := by decide +kernel
theorem dX4_add_54 : decode cX4_add 54 = .ok (.iload_n 2, 1) := by decide +kernel
theorem dX4_add_55 : decode cX4_add 55 = .ok (.iconst 1, 1) := by decide +kernel
theorem dX4_add_56 : decode cX4_add 56 = .ok (.isub, 1) := by decide +kernel
theorem dX4_add_57 : decode cX4_add 57 = .ok (.invokestatic 55, 3) := by decide +kernel
theorem dX4_add_60 : decode cX4_add 60 = .ok (.istore_n 2, 1) := by decide +kernel
theorem dX4_add_61 : decode cX4_add 61 = .ok (.aload_n 0, 1) := by decide +kernel
theorem dX4_add_62 : decode cX4_add 62 = .ok (.bipush 6, 2) := by decide +kernel
theorem dX4_add_64 : decode cX4_add 64 = .ok (.aload_n 0, 1) := by decide +kernel
theorem dX4_add_65 : decode cX4_add 65 = .ok (.getfield 31, 3) := by decide +kernel
theorem dX4_add_68 : decode cX4_add 68 = .ok (.iload_n 2, 1) := by decide +kernel
theorem dX4_add_69 : decode cX4_add 69 = .ok (.invokestatic 45, 3) := by decide +kernel
theorem dX4_add_72 : decode cX4_add 72 = .ok (.iconst 5, 1) := by decide +kernel
theorem dX4_add_73 : decode cX4_add 73 = .ok (.invokevirtual 61, 3) := by decide +kernel
theorem dX4_add_76 : decode cX4_add 76 = .ok (.istore 5, 2) := by decide +kernel
theorem dX4_add_78 : decode cX4_add 78 = .ok (.goto 37, 3) := by decide +kernel
theorem dX4_add_81 : decode cX4_add 81 = .ok (.iconst 0, 1) := by decide +kernel
theorem dX4_add_82 : decode cX4_add 82 = .ok (.iload_n 2, 1) := by decide +kernel
theorem dX4_add_83 : decode cX4_add 83 = .ok (.iconst 2, 1) := by decide +kernel
theorem dX4_add_84 : decode cX4_add 84 = .ok (.isub, 1) := by decide +kernel
theorem dX4_add_85 : decode cX4_add 85 = .ok (.invokestatic 55, 3) := by decide +kernel
theorem dX4_add_88 : decode cX4_add 88 = .ok (.istore_n 2, 1) := by decide +kernel
theorem dX4_add_89 : decode cX4_add 89 = .ok (.aload_n 0, 1) := by decide +kernel
theorem dX4_add_90 : decode cX4_add 90 = .ok (.iload 4, 2) := by decide +kernel
theorem dX4_add_92 : decode cX4_add 92 = .ok (.aload_n 0, 1) := by decide +kernel
theorem dX4_add_93 : decode cX4_add 93 = .ok (.getfield 31, 3) := by decide +kernel
theorem dX4_add_96 : decode cX4_add 96 = .ok (.iload_n 2, 1) := by decide +kernel
theorem dX4_add_97 : decode cX4_add 97 = .ok (.invokestatic 45, 3) := by decide +kernel
theorem dX4_add_100 : decode cX4_add 100 = .ok (.aload_n 0, 1) := by decide +kernel
theorem dX4_add_101 : decode cX4_add 101 = .ok (.getfield 31, 3) := by decide +kernel
theorem dX4_add_104 : decode cX4_add 104 = .ok (.iload_n 2, 1) := by decide +kernel
theorem dX4_add_105 : decode cX4_add 105 = .ok (.iconst 1, 1) := by decide +kernel
theorem dX4_add_106 : decode cX4_add 106 = .ok (.iadd, 1) := by decide +kernel
theorem dX4_add_107 : decode cX4_add 107 = .ok (.invokestatic 45, 3) := by decide +kernel
theorem dX4_add_110 : decode cX4_add 110 = .ok (.invokevirtual 61, 3) := by decide +kernel
theorem dX4_add_113 : decode cX4_add 113 = .ok (.istore 5, 2) := by decide +kernel
theorem dX4_add_115 : decode cX4_add 115 = .ok (.iload_n 2, 1) := by decide +kernel
theorem dX4_add_116 : decode cX4_add 116 = .ok (.aload_n 0, 1) := by decide +kernel
theorem dX4_add_117 : decode cX4_add 117 = .ok (.getfield 31, 3) := by decide +kernel
theorem dX4_add_120 : decode cX4_add 120 = .ok (.arraylength, 1) := by decide +kernel
theorem dX4_add_121 : decode cX4_add 121 = .ok (.if_icmp .ge 14, 3) := by decide +kernel
theorem dX4_add_124 : decode cX4_add 124 = .ok (.aload_n 0, 1) := by decide +kernel
theorem dX4_add_125 : decode cX4_add 125 = .ok (.getfield 31, 3) := by decide +kernel
theorem dX4_add_128 : decode cX4_add 128 = .ok (.iload_n 2, 1) := by decide +kernel
theorem dX4_add_129 : decode cX4_add 129 = .ok (.iload 5, 2) := by decide +kernel
theorem dX4_add_131 : decode cX4_add 131 = .ok (.iastore, 1) := by decide +kernel
theorem dX4_add_132 : decode cX4_add 132 = .ok (.iinc 2 1, 3) := by decide +kernel
theorem dX4_add_135 : decode cX4_add 135 = .ok (.iinc 3 1, 3) := by decide +kernel
theorem dX4_add_138 : decode cX4_add 138 = .ok (.goto (-134), 3) := by decide +kernel
theorem dX4_add_141 : decode cX4_add 141 = .ok (.aload_n 0, 1) := by decide +kernel
theorem dX4_add_142 : decode cX4_add 142 = .ok (.getfield 31, 3) := by decide +kernel
theorem dX4_add_145 : decode cX4_add 145 = .ok (.iconst 0, 1) := by decide +kernel
theorem dX4_add_146 : decode cX4_add 146 = .ok (.iaload, 1) := by decide +kernel
theorem dX4_add_147 : decode cX4_add 147 = .ok (.ireturn, 1) := by decide +kernel
theorem dX4_find_0 : decode cX4_find 0 = .ok (.bipush 6, 2) := by decide +kernel
theorem dX4_find_2 : decode cX4_find 2 = .ok (.istore 4, 2) := by decide +kernel
theorem dX4_find_4 : decode cX4_find 4 = .ok (.iload 4, 2) := by decide +kernel
theorem dX4_find_6 : decode cX4_find 6 = .ok (.aload_n 0, 1) := by decide +kernel
theorem dX4_find_7 : decode cX4_find 7 = .ok (.getfield 11, 3) := by decide +kernel
theorem dX4_find_10 : decode cX4_find 10 = .ok (.if_icmp .ge 45, 3) := by decide +kernel
theorem dX4_find_13 : decode cX4_find 13 = .ok (.aload_n 0, 1) := by decide +kernel
theorem dX4_find_14 : decode cX4_find 14 = .ok (.getfield 19, 3) := by decide +kernel
theorem dX4_find_17 : decode cX4_find 17 = .ok (.iload 4, 2) := by decide +kernel
theorem dX4_find_19 : decode cX4_find 19 = .ok (.iaload, 1) := by decide +kernel
theorem dX4_find_20 : decode cX4_find 20 = .ok (.iload_n 2, 1) := by decide +kernel
theorem dX4_find_21 : decode cX4_find 21 = .ok (.if_icmp .ne 28, 3) := by decide +kernel
theorem dX4_find_24 : decode cX4_find 24 = .ok (.aload_n 0, 1) := by decide +kernel
theorem dX4_find_25 : decode cX4_find 25 = .ok (.getfield 22, 3) := by decide +kernel
theorem dX4_find_28 : decode cX4_find 28 = .ok (.iload 4, 2) := by decide +kernel
theorem dX4_find_30 : decode cX4_find 30 = .ok (.iaload, 1) := by decide +kernel
theorem dX4_find_31 : decode cX4_find 31 = .ok (.iload_n 3, 1) := by decide +kernel
theorem dX4_find_32 : decode cX4_find 32 = .ok (.if_icmp .ne 17, 3) := by decide +kernel
theorem dX4_find_35 : decode cX4_find 35 = .ok (.aload_n 0, 1) := by decide +kernel
theorem dX4_find_36 : decode cX4_find 36 = .ok (.getfield 15, 3) := by decide +kernel
theorem dX4_find_39 : decode cX4_find 39 = .ok (.iload 4, 2) := by decide +kernel
theorem dX4_find_41 : decode cX4_find 41 = .ok (.iaload, 1) := by decide +kernel
theorem dX4_find_42 : decode cX4_find 42 = .ok (.iload_n 1, 1) := by decide +kernel
theorem dX4_find_43 : decode cX4_find 43 = .ok (.if_icmp .ne 6, 3) := by decide +kernel
theorem dX4_find_46 : decode cX4_find 46 = .ok (.iload 4, 2) := by decide +kernel
theorem dX4_find_48 : decode cX4_find 48 = .ok (.ireturn, 1) := by decide +kernel
theorem dX4_find_49 : decode cX4_find 49 = .ok (.iinc 4 1, 3) := by decide +kernel
theorem dX4_find_52 : decode cX4_find 52 = .ok (.goto (-48), 3) := by decide +kernel
theorem dX4_find_55 : decode cX4_find 55 = .ok (.aload_n 0, 1) := by decide +kernel
theorem dX4_find_56 : decode cX4_find 56 = .ok (.getfield 11, 3) := by decide +kernel
theorem dX4_find_59 : decode cX4_find 59 = .ok (.sipush 151, 3) := by decide +kernel
theorem dX4_find_62 : decode cX4_find 62 = .ok (.if_icmp .lt 5, 3) := by decide +kernel
theorem dX4_find_65 : decode cX4_find 65 = .ok (.iconst 5, 1) := by decide +kernel
theorem dX4_find_66 : decode cX4_find 66 = .ok (.ireturn, 1) := by decide +kernel
theorem dX4_find_67 : decode cX4_find 67 = .ok (.aload_n 0, 1) := by decide +kernel
theorem dX4_find_68 : decode cX4_find 68 = .ok (.getfield 15, 3) := by decide +kernel
theorem dX4_find_71 : decode cX4_find 71 = .ok (.aload_n 0, 1) := by decide +kernel
theorem dX4_find_72 : decode cX4_find 72 = .ok (.getfield 11, 3) := by decide +kernel
theorem dX4_find_75 : decode cX4_find 75 = .ok (.iload_n 1, 1) := by decide +kernel
theorem dX4_find_76 : decode cX4_find 76 = .ok (.iastore, 1) := by decide +kernel
theorem dX4_find_77 : decode cX4_find 77 = .ok (.aload_n 0, 1) := by decide +kernel
theorem dX4_find_78 : decode cX4_find 78 = .ok (.getfield 19, 3) := by decide +kernel
theorem dX4_find_81 : decode cX4_find 81 = .ok (.aload_n 0, 1) := by decide +kernel
theorem dX4_find_82 : decode cX4_find 82 = .ok (.getfield 11, 3) := by decide +kernel
theorem dX4_find_85 : decode cX4_find 85 = .ok (.iload_n 2, 1) := by decide +kernel
theorem dX4_find_86 : decode cX4_find 86 = .ok (.iastore, 1) := by decide +kernel
theorem dX4_find_87 : decode cX4_find 87 = .ok (.aload_n 0, 1) := by decide +kernel
theorem dX4_find_88 : decode cX4_find 88 = .ok (.getfield 22, 3) := by decide +kernel
theorem dX4_find_91 : decode cX4_find 91 = .ok (.aload_n 0, 1) := by decide +kernel
theorem dX4_find_92 : decode cX4_find 92 = .ok (.getfield 11, 3) := by decide +kernel
theorem dX4_find_95 : decode cX4_find 95 = .ok (.iload_n 3, 1) := by decide +kernel
theorem dX4_find_96 : decode cX4_find 96 = .ok (.iastore, 1) := by decide +kernel
theorem dX4_find_97 : decode cX4_find 97 = .ok (.aload_n 0, 1) := by decide +kernel
theorem dX4_find_98 : decode cX4_find 98 = .ok (.dup, 1) := by decide +kernel
theorem dX4_find_99 : decode cX4_find 99 = .ok (.getfield 11, 3) := by decide +kernel
theorem dX4_find_102 : decode cX4_find 102 = .ok (.iconst 1, 1) := by decide +kernel
theorem dX4_find_103 : decode cX4_find 103 = .ok (.iadd, 1) := by decide +kernel
theorem dX4_find_104 : decode cX4_find 104 = .ok (.putfield 11, 3) := by decide +kernel
theorem dX4_find_107 : decode cX4_find 107 = .ok (.aload_n 0, 1) := by decide +kernel
theorem dX4_find_108 : decode cX4_find 108 = .ok (.getfield 11, 3) := by decide +kernel
theorem dX4_find_111 : decode cX4_find 111 = .ok (.iconst 1, 1) := by decide +kernel
theorem dX4_find_112 : decode cX4_find 112 = .ok (.isub, 1) := by decide +kernel
theorem dX4_find_113 : decode cX4_find 113 = .ok (.ireturn, 1) := by decide +kernel
theorem dX4_isIf_0 : decode cX4_isIf 0 = .ok (.iload_n 1, 1) := by decide +kernel
theorem dX4_isIf_1 : decode cX4_isIf 1 = .ok (.ifCond .lt 37, 3) := by decide +kernel
theorem dX4_isIf_4 : decode cX4_isIf 4 = .ok (.iload_n 1, 1) := by decide +kernel
theorem dX4_isIf_5 : decode cX4_isIf 5 = .ok (.aload_n 0, 1) := by decide +kernel
theorem dX4_isIf_6 : decode cX4_isIf 6 = .ok (.getfield 11, 3) := by decide +kernel
theorem dX4_isIf_9 : decode cX4_isIf 9 = .ok (.if_icmp .ge 29, 3) := by decide +kernel
theorem dX4_isIf_12 : decode cX4_isIf 12 = .ok (.aload_n 0, 1) := by decide +kernel
theorem dX4_isIf_13 : decode cX4_isIf 13 = .ok (.getfield 15, 3) := by decide +kernel
theorem dX4_isIf_16 : decode cX4_isIf 16 = .ok (.iload_n 1, 1) := by decide +kernel
theorem dX4_isIf_17 : decode cX4_isIf 17 = .ok (.iaload, 1) := by decide +kernel
theorem dX4_isIf_18 : decode cX4_isIf 18 = .ok (.bipush 9, 2) := by decide +kernel
theorem dX4_isIf_20 : decode cX4_isIf 20 = .ok (.if_icmp .eq 14, 3) := by decide +kernel
theorem dX4_isIf_23 : decode cX4_isIf 23 = .ok (.aload_n 0, 1) := by decide +kernel
theorem dX4_isIf_24 : decode cX4_isIf 24 = .ok (.getfield 15, 3) := by decide +kernel
theorem dX4_isIf_27 : decode cX4_isIf 27 = .ok (.iload_n 1, 1) := by decide +kernel
theorem dX4_isIf_28 : decode cX4_isIf 28 = .ok (.iaload, 1) := by decide +kernel
theorem dX4_isIf_29 : decode cX4_isIf 29 = .ok (.bipush 6, 2) := by decide +kernel
theorem dX4_isIf_31 : decode cX4_isIf 31 = .ok (.if_icmp .ne 7, 3) := by decide +kernel
theorem dX4_isIf_34 : decode cX4_isIf 34 = .ok (.iconst 1, 1) := by decide +kernel
theorem dX4_isIf_35 : decode cX4_isIf 35 = .ok (.goto 4, 3) := by decide +kernel
theorem dX4_isIf_38 : decode cX4_isIf 38 = .ok (.iconst 0, 1) := by decide +kernel
theorem dX4_isIf_39 : decode cX4_isIf 39 = .ok (.ireturn, 1) := by decide +kernel
set_option maxRecDepth 20000 in
theorem ggX4_different_J6_bitCount_0f7a4 : GoodIn wsX4_different wsJ6_bitCount_0f7a4 := goodIn_r _ [6, 7, 8, 9] (by decide +kernel) (by decide +kernel)
set_option maxRecDepth 20000 in
theorem gX4_different_J6_bitCount_0f7a4 : GoodIn wsX4_different (va_wsS RX4 65 yJ6_bitCount_0f7a4 wsJ6_bitCount_0f7a4) := goodIn_app (goodIn_of _ (by decide +kernel)) ggX4_different_J6_bitCount_0f7a4
theorem dX4_different_0 : decode cX4_different 0 = .ok (.aload_n 0, 1) := by decide +kernel
theorem dX4_different_1 : decode cX4_different 1 = .ok (.getfield 11, 3) := by decide +kernel
theorem dX4_different_4 : decode cX4_different 4 = .ok (.bipush 6, 2) := by decide +kernel
theorem dX4_different_6 : decode cX4_different 6 = .ok (.isub, 1) := by decide +kernel
theorem dX4_different_7 : decode cX4_different 7 = .ok (.aload_n 0, 1) := by decide +kernel
theorem dX4_different_8 : decode cX4_different 8 = .ok (.getfield 28, 3) := by decide +kernel
theorem dX4_different_11 : decode cX4_different 11 = .ok (.invokestatic 65, 3) := by decide +kernel
theorem dX4_different_14 : decode cX4_different 14 = .ok (.iadd, 1) := by decide +kernel
theorem dX4_different_15 : decode cX4_different 15 = .ok (.ireturn, 1) := by decide +kernel
theorem dX4_usedFacts_0 : decode cX4_usedFacts 0 = .ok (.aload_n 0, 1) := by decide +kernel
theorem dX4_usedFacts_1 : decode cX4_usedFacts 1 = .ok (.getfield 28, 3) := by decide +kernel
theorem dX4_usedFacts_4 : decode cX4_usedFacts 4 = .ok (.bipush 15, 2) := by decide +kernel
theorem dX4_usedFacts_6 : decode cX4_usedFacts 6 = .ok (.iand, 1) := by decide +kernel
theorem dX4_usedFacts_7 : decode cX4_usedFacts 7 = .ok (.ireturn, 1) := by decide +kernel
set_option maxRecDepth 20000 in
theorem ggX4_depth_X9_at : GoodIn wsX4_depth wsX9_at := goodIn_r _ [11] (by decide +kernel) (by decide +kernel)
set_option maxRecDepth 20000 in
theorem gX4_depth_X9_at_n45 : GoodIn wsX4_depth (wsX9_at) := ggX4_depth_X9_at
set_option maxRecDepth 20000 in
theorem ggX4_depth_X4_whole : GoodIn wsX4_depth wsX4_whole := goodIn_r _ [16, 17, 9, 10, 11, 18, 19, 20, 21, 22, 23, 24, 25] (by decide +kernel) (by decide +kernel)
set_option maxRecDepth 20000 in
theorem gX4_depth_X4_whole : GoodIn wsX4_depth (wsV RX4 71 RX4 yX4_whole wsX4_whole) := goodIn_app (goodIn_of _ (by decide +kernel)) ggX4_depth_X4_whole
theorem dX4_depth_0 : decode cX4_depth 0 = .ok (.iconst 0, 1) := by decide +kernel
theorem dX4_depth_1 : decode cX4_depth 1 = .ok (.istore_n 2, 1) := by decide +kernel
theorem dX4_depth_2 : decode cX4_depth 2 = .ok (.iload_n 2, 1) := by decide +kernel
theorem dX4_depth_3 : decode cX4_depth 3 = .ok (.aload_n 0, 1) := by decide +kernel
theorem dX4_depth_4 : decode cX4_depth 4 = .ok (.getfield 11, 3) := by decide +kernel
theorem dX4_depth_7 : decode cX4_depth 7 = .ok (.if_icmp .ge 58, 3) := by decide +kernel
theorem dX4_depth_10 : decode cX4_depth 10 = .ok (.aload_n 0, 1) := by decide +kernel
theorem dX4_depth_11 : decode cX4_depth 11 = .ok (.getfield 34, 3) := by decide +kernel
theorem dX4_depth_14 : decode cX4_depth 14 = .ok (.aload_n 0, 1) := by decide +kernel
theorem dX4_depth_15 : decode cX4_depth 15 = .ok (.getfield 19, 3) := by decide +kernel
theorem dX4_depth_18 : decode cX4_depth 18 = .ok (.iload_n 2, 1) := by decide +kernel
theorem dX4_depth_19 : decode cX4_depth 19 = .ok (.iaload, 1) := by decide +kernel
theorem dX4_depth_20 : decode cX4_depth 20 = .ok (.invokestatic 45, 3) := by decide +kernel
theorem dX4_depth_23 : decode cX4_depth 23 = .ok (.aload_n 0, 1) := by decide +kernel
theorem dX4_depth_24 : decode cX4_depth 24 = .ok (.getfield 34, 3) := by decide +kernel
theorem dX4_depth_27 : decode cX4_depth 27 = .ok (.aload_n 0, 1) := by decide +kernel
theorem dX4_depth_28 : decode cX4_depth 28 = .ok (.getfield 22, 3) := by decide +kernel
theorem dX4_depth_31 : decode cX4_depth 31 = .ok (.iload_n 2, 1) := by decide +kernel
theorem dX4_depth_32 : decode cX4_depth 32 = .ok (.iaload, 1) := by decide +kernel
theorem dX4_depth_33 : decode cX4_depth 33 = .ok (.invokestatic 45, 3) := by decide +kernel
theorem dX4_depth_36 : decode cX4_depth 36 = .ok (.invokestatic 55, 3) := by decide +kernel
theorem dX4_depth_39 : decode cX4_depth 39 = .ok (.istore_n 3, 1) := by decide +kernel
theorem dX4_depth_40 : decode cX4_depth 40 = .ok (.aload_n 0, 1) := by decide +kernel
theorem dX4_depth_41 : decode cX4_depth 41 = .ok (.getfield 34, 3) := by decide +kernel
theorem dX4_depth_44 : decode cX4_depth 44 = .ok (.iload_n 2, 1) := by decide +kernel
theorem dX4_depth_45 : decode cX4_depth 45 = .ok (.iload_n 2, 1) := by decide +kernel
theorem dX4_depth_46 : decode cX4_depth 46 = .ok (.bipush 6, 2) := by decide +kernel
theorem dX4_depth_48 : decode cX4_depth 48 = .ok (.if_icmp .ge 7, 3) := by decide +kernel
theorem dX4_depth_51 : decode cX4_depth 51 = .ok (.iconst 1, 1) := by decide +kernel
theorem dX4_depth_52 : decode cX4_depth 52 = .ok (.goto 6, 3) := by decide +kernel
theorem dX4_depth_55 : decode cX4_depth 55 = .ok (.iconst 1, 1) := by decide +kernel
theorem dX4_depth_56 : decode cX4_depth 56 = .ok (.iload_n 3, 1) := by decide +kernel
theorem dX4_depth_57 : decode cX4_depth 57 = .ok (.iadd, 1) := by decide +kernel
theorem dX4_depth_58 : decode cX4_depth 58 = .ok (.iastore, 1) := by decide +kernel
theorem dX4_depth_59 : decode cX4_depth 59 = .ok (.iinc 2 1, 3) := by decide +kernel
theorem dX4_depth_62 : decode cX4_depth 62 = .ok (.goto (-60), 3) := by decide +kernel
theorem dX4_depth_65 : decode cX4_depth 65 = .ok (.aload_n 0, 1) := by decide +kernel
theorem dX4_depth_66 : decode cX4_depth 66 = .ok (.getfield 34, 3) := by decide +kernel
theorem dX4_depth_69 : decode cX4_depth 69 = .ok (.aload_n 0, 1) := by decide +kernel
theorem dX4_depth_70 : decode cX4_depth 70 = .ok (.iload_n 1, 1) := by decide +kernel
theorem dX4_depth_71 : decode cX4_depth 71 = .ok (.invokevirtual 71, 3) := by decide +kernel
theorem dX4_depth_74 : decode cX4_depth 74 = .ok (.invokestatic 45, 3) := by decide +kernel
theorem dX4_depth_77 : decode cX4_depth 77 = .ok (.ireturn, 1) := by decide +kernel
