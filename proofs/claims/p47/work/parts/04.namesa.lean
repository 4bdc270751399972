theorem dX0_init_0 : decode cX0_init 0 = .ok (.aload_n 0, 1) := by decide +kernel
theorem dX0_init_1 : decode cX0_init 1 = .ok (.invokespecial 3, 3) := by decide +kernel
theorem dX0_init_4 : decode cX0_init 4 = .ok (.aload_n 0, 1) := by decide +kernel
theorem dX0_init_5 : decode cX0_init 5 = .ok (.sipush 3456, 3) := by decide +kernel
theorem dX0_init_8 : decode cX0_init 8 = .ok (.newarray .int, 2) := by decide +kernel
theorem dX0_init_10 : decode cX0_init 10 = .ok (.putfield 9, 3) := by decide +kernel
theorem dX0_init_13 : decode cX0_init 13 = .ok (.aload_n 0, 1) := by decide +kernel
theorem dX0_init_14 : decode cX0_init 14 = .ok (.sipush 3456, 3) := by decide +kernel
theorem dX0_init_17 : decode cX0_init 17 = .ok (.newarray .int, 2) := by decide +kernel
theorem dX0_init_19 : decode cX0_init 19 = .ok (.putfield 13, 3) := by decide +kernel
theorem dX0_init_22 : decode cX0_init 22 = .ok (.return_, 1) := by decide +kernel
set_option maxRecDepth 200000 in
theorem ggX0_dotOf_X6_rowOf : GoodIn wsX0_dotOf wsX6_rowOf := goodIn_r _ [3] rfl (by decide +kernel)
set_option maxRecDepth 200000 in
theorem gX0_dotOf_X6_rowOf_n16 : GoodIn wsX0_dotOf (wsX6_rowOf) := ggX0_dotOf_X6_rowOf
set_option maxRecDepth 200000 in
theorem ggX0_dotOf_X6_columnOf : GoodIn wsX0_dotOf wsX6_columnOf := goodIn_r _ [5] rfl (by decide +kernel)
set_option maxRecDepth 200000 in
theorem gX0_dotOf_X6_columnOf_n22 : GoodIn wsX0_dotOf (wsX6_columnOf) := ggX0_dotOf_X6_columnOf
theorem dX0_dotOf_0 : decode cX0_dotOf 0 = .ok (.iconst 3, 1) := by decide +kernel
theorem dX0_dotOf_1 : decode cX0_dotOf 1 = .ok (.iload_n 0, 1) := by decide +kernel
theorem dX0_dotOf_2 : decode cX0_dotOf 2 = .ok (.invokestatic 16, 3) := by decide +kernel
theorem dX0_dotOf_5 : decode cX0_dotOf 5 = .ok (.imul, 1) := by decide +kernel
theorem dX0_dotOf_6 : decode cX0_dotOf 6 = .ok (.iconst 1, 1) := by decide +kernel
theorem dX0_dotOf_7 : decode cX0_dotOf 7 = .ok (.iadd, 1) := by decide +kernel
theorem dX0_dotOf_8 : decode cX0_dotOf 8 = .ok (.bipush 72, 2) := by decide +kernel
theorem dX0_dotOf_10 : decode cX0_dotOf 10 = .ok (.imul, 1) := by decide +kernel
theorem dX0_dotOf_11 : decode cX0_dotOf 11 = .ok (.iconst 3, 1) := by decide +kernel
theorem dX0_dotOf_12 : decode cX0_dotOf 12 = .ok (.iload_n 0, 1) := by decide +kernel
theorem dX0_dotOf_13 : decode cX0_dotOf 13 = .ok (.invokestatic 22, 3) := by decide +kernel
theorem dX0_dotOf_16 : decode cX0_dotOf 16 = .ok (.imul, 1) := by decide +kernel
theorem dX0_dotOf_17 : decode cX0_dotOf 17 = .ok (.iadd, 1) := by decide +kernel
theorem dX0_dotOf_18 : decode cX0_dotOf 18 = .ok (.iconst 1, 1) := by decide +kernel
theorem dX0_dotOf_19 : decode cX0_dotOf 19 = .ok (.iadd, 1) := by decide +kernel
theorem dX0_dotOf_20 : decode cX0_dotOf 20 = .ok (.ireturn, 1) := by decide +kernel
theorem dX0_isDot_0 : decode cX0_isDot 0 = .ok (.iload_n 0, 1) := by decide +kernel
theorem dX0_isDot_1 : decode cX0_isDot 1 = .ok (.ifCond .lt 14, 3) := by decide +kernel
theorem dX0_isDot_4 : decode cX0_isDot 4 = .ok (.iload_n 0, 1) := by decide +kernel
theorem dX0_isDot_5 : decode cX0_isDot 5 = .ok (.sipush 3456, 3) := by decide +kernel
theorem dX0_isDot_8 : decode cX0_isDot 8 = .ok (.if_icmp .ge 7, 3) := by decide +kernel
theorem dX0_isDot_11 : decode cX0_isDot 11 = .ok (.iconst 1, 1) := by decide +kernel
theorem dX0_isDot_12 : decode cX0_isDot 12 = .ok (.goto 4, 3) := by decide +kernel
theorem dX0_isDot_15 : decode cX0_isDot 15 = .ok (.iconst 0, 1) := by decide +kernel
theorem dX0_isDot_16 : decode cX0_isDot 16 = .ok (.ireturn, 1) := by decide +kernel
set_option maxRecDepth 200000 in
theorem ggX0_drawLine_X4_stepCount : GoodIn wsX0_drawLine wsX4_stepCount := goodIn_r _ [6, 7, 8, 39, 40, 41, 42, 43, 44] rfl (by decide +kernel)
set_option maxRecDepth 200000 in
theorem gX0_drawLine_X4_stepCount : GoodIn wsX0_drawLine (wsV RX0 25 RX4 yX4_stepCount wsX4_stepCount) := goodIn_app (goodIn_of _ (by decide +kernel)) ggX0_drawLine_X4_stepCount
set_option maxRecDepth 200000 in
theorem ggX0_drawLine_X4_pointAt : GoodIn wsX0_drawLine wsX4_pointAt := goodIn_r _ [12, 7, 8, 13, 39, 40, 41, 42, 43, 44] rfl (by decide +kernel)
set_option maxRecDepth 200000 in
theorem gX0_drawLine_X4_pointAt : GoodIn wsX0_drawLine (wsV RX0 30 RX4 yX4_pointAt wsX4_pointAt) := goodIn_app (goodIn_of _ (by decide +kernel)) ggX0_drawLine_X4_pointAt
set_option maxRecDepth 200000 in
theorem ggX0_drawLine_X0_dotOf : GoodIn wsX0_drawLine wsX0_dotOf := goodIn_r _ [17, 18, 19, 20, 21, 22] rfl (by decide +kernel)
set_option maxRecDepth 200000 in
theorem gX0_drawLine_X0_dotOf : GoodIn wsX0_drawLine (va_wsS RX0 34 yX0_dotOf wsX0_dotOf) := goodIn_app (goodIn_of _ (by decide +kernel)) ggX0_drawLine_X0_dotOf
set_option maxRecDepth 200000 in
theorem ggX0_drawLine_X4_directionAt : GoodIn wsX0_drawLine wsX4_directionAt := goodIn_r _ [26, 7, 8, 13, 39, 40, 41, 42, 43, 44] rfl (by decide +kernel)
set_option maxRecDepth 200000 in
theorem gX0_drawLine_X4_directionAt : GoodIn wsX0_drawLine (wsV RX0 37 RX4 yX4_directionAt wsX4_directionAt) := goodIn_app (goodIn_of _ (by decide +kernel)) ggX0_drawLine_X4_directionAt
set_option maxRecDepth 200000 in
theorem ggX0_drawLine_X0_drawStep : GoodIn wsX0_drawLine wsX0_drawStep := goodIn_r _ [30, 1, 31, 19, 32, 33, 34, 16, 35, 36, 37, 38] rfl (by decide +kernel)
set_option maxRecDepth 200000 in
theorem gX0_drawLine_X0_drawStep : GoodIn wsX0_drawLine (wsV RX0 40 RX0 yX0_drawStep wsX0_drawStep) := goodIn_app (goodIn_of _ (by decide +kernel)) ggX0_drawLine_X0_drawStep
theorem dX0_drawLine_0 : decode cX0_drawLine 0 = .ok (.iconst 0, 1) := by decide +kernel
theorem dX0_drawLine_1 : decode cX0_drawLine 1 = .ok (.istore_n 3, 1) := by decide +kernel
theorem dX0_drawLine_2 : decode cX0_drawLine 2 = .ok (.iload_n 3, 1) := by decide +kernel
theorem dX0_drawLine_3 : decode cX0_drawLine 3 = .ok (.sipush 3456, 3) := by decide +kernel
theorem dX0_drawLine_6 : decode cX0_drawLine 6 = .ok (.if_icmp .ge 16, 3) := by decide +kernel
theorem dX0_drawLine_9 : decode cX0_drawLine 9 = .ok (.aload_n 0, 1) := by decide +kernel
theorem dX0_drawLine_10 : decode cX0_drawLine 10 = .ok (.getfield 9, 3) := by decide +kernel
theorem dX0_drawLine_13 : decode cX0_drawLine 13 = .ok (.iload_n 3, 1) := by decide +kernel
theorem dX0_drawLine_14 : decode cX0_drawLine 14 = .ok (.iconst 0, 1) := by decide +kernel
theorem dX0_drawLine_15 : decode cX0_drawLine 15 = .ok (.iastore, 1) := by decide +kernel
theorem dX0_drawLine_16 : decode cX0_drawLine 16 = .ok (.iinc 3 1, 3) := by decide +kernel
theorem dX0_drawLine_19 : decode cX0_drawLine 19 = .ok (.goto (-17), 3) := by decide +kernel
theorem dX0_drawLine_22 : decode cX0_drawLine 22 = .ok (.aload_n 1, 1) := by decide +kernel
theorem dX0_drawLine_23 : decode cX0_drawLine 23 = .ok (.iload_n 2, 1) := by decide +kernel
theorem dX0_drawLine_24 : decode cX0_drawLine 24 = .ok (.invokevirtual 25, 3) := by decide +kernel
theorem dX0_drawLine_27 : decode cX0_drawLine 27 = .ok (.istore_n 3, 1) := by decide +kernel
theorem dX0_drawLine_28 : decode cX0_drawLine 28 = .ok (.iconst 0, 1) := by decide +kernel
theorem dX0_drawLine_29 : decode cX0_drawLine 29 = .ok (.istore 4, 2) := by decide +kernel
theorem dX0_drawLine_31 : decode cX0_drawLine 31 = .ok (.iload 4, 2) := by decide +kernel
theorem dX0_drawLine_33 : decode cX0_drawLine 33 = .ok (.iload_n 3, 1) := by decide +kernel
theorem dX0_drawLine_34 : decode cX0_drawLine 34 = .ok (.if_icmp .ge 30, 3) := by decide +kernel
theorem dX0_drawLine_37 : decode cX0_drawLine 37 = .ok (.aload_n 0, 1) := by decide +kernel
theorem dX0_drawLine_38 : decode cX0_drawLine 38 = .ok (.aload_n 1, 1) := by decide +kernel
theorem dX0_drawLine_39 : decode cX0_drawLine 39 = .ok (.iload_n 2, 1) := by decide +kernel
theorem dX0_drawLine_40 : decode cX0_drawLine 40 = .ok (.iload 4, 2) := by decide +kernel
theorem dX0_drawLine_42 : decode cX0_drawLine 42 = .ok (.invokevirtual 30, 3) := by decide +kernel
theorem dX0_drawLine_45 : decode cX0_drawLine 45 = .ok (.invokestatic 34, 3) := by decide +kernel
theorem dX0_drawLine_48 : decode cX0_drawLine 48 = .ok (.aload_n 1, 1) := by decide +kernel
theorem dX0_drawLine_49 : decode cX0_drawLine 49 = .ok (.iload_n 2, 1) := by decide +kernel
theorem dX0_drawLine_50 : decode cX0_drawLine 50 = .ok (.iload 4, 2) := by decide +kernel
theorem dX0_drawLine_52 : decode cX0_drawLine 52 = .ok (.invokevirtual 37, 3) := by decide +kernel
theorem dX0_drawLine_55 : decode cX0_drawLine 55 = .ok (.invokevirtual 40, 3) := by decide +kernel
theorem dX0_drawLine_58 : decode cX0_drawLine 58 = .ok (.iinc 4 1, 3) := by decide +kernel
theorem dX0_drawLine_61 : decode cX0_drawLine 61 = .ok (.goto (-30), 3) := by decide +kernel
theorem dX0_drawLine_64 : decode cX0_drawLine 64 = .ok (.return_, 1) := by decide +kernel
set_option maxRecDepth 200000 in
theorem ggX0_drawStep_X6_isDirection : GoodIn wsX0_drawStep wsX6_isDirection := goodIn_r _ [4] rfl (by decide +kernel)
set_option maxRecDepth 200000 in
theorem gX0_drawStep_X6_isDirection_n44 : GoodIn wsX0_drawStep (wsX6_isDirection) := ggX0_drawStep_X6_isDirection
set_option maxRecDepth 200000 in
theorem ggX0_drawStep_X0_isDot : GoodIn wsX0_drawStep wsX0_isDot := goodIn_r _ [8] rfl (by decide +kernel)
set_option maxRecDepth 200000 in
theorem gX0_drawStep_X0_isDot : GoodIn wsX0_drawStep (va_wsS RX0 54 yX0_isDot wsX0_isDot) := goodIn_app (goodIn_of _ (by decide +kernel)) ggX0_drawStep_X0_isDot
theorem dX0_drawStep_0 : decode cX0_drawStep 0 = .ok (.iload_n 2, 1) := by decide +kernel
theorem dX0_drawStep_1 : decode cX0_drawStep 1 = .ok (.invokestatic 44, 3) := by decide +kernel
theorem dX0_drawStep_4 : decode cX0_drawStep 4 = .ok (.ifCond .ne 4, 3) := by decide +kernel
theorem dX0_drawStep_7 : decode cX0_drawStep 7 = .ok (.return_, 1) := by decide +kernel
theorem dX0_drawStep_8 : decode cX0_drawStep 8 = .ok (.getstatic 48, 3) := by decide +kernel
theorem dX0_drawStep_11 : decode cX0_drawStep 11 = .ok (.iload_n 2, 1) := by decide +kernel
theorem dX0_drawStep_12 : decode cX0_drawStep 12 = .ok (.iaload, 1) := by decide +kernel
theorem dX0_drawStep_13 : decode cX0_drawStep 13 = .ok (.bipush 72, 2) := by decide +kernel
theorem dX0_drawStep_15 : decode cX0_drawStep 15 = .ok (.imul, 1) := by decide +kernel
theorem dX0_drawStep_16 : decode cX0_drawStep 16 = .ok (.getstatic 51, 3) := by decide +kernel
theorem dX0_drawStep_19 : decode cX0_drawStep 19 = .ok (.iload_n 2, 1) := by decide +kernel
theorem dX0_drawStep_20 : decode cX0_drawStep 20 = .ok (.iaload, 1) := by decide +kernel
theorem dX0_drawStep_21 : decode cX0_drawStep 21 = .ok (.iadd, 1) := by decide +kernel
theorem dX0_drawStep_22 : decode cX0_drawStep 22 = .ok (.istore_n 3, 1) := by decide +kernel
theorem dX0_drawStep_23 : decode cX0_drawStep 23 = .ok (.iconst 0, 1) := by decide +kernel
theorem dX0_drawStep_24 : decode cX0_drawStep 24 = .ok (.istore 4, 2) := by decide +kernel
theorem dX0_drawStep_26 : decode cX0_drawStep 26 = .ok (.iload 4, 2) := by decide +kernel
theorem dX0_drawStep_28 : decode cX0_drawStep 28 = .ok (.iconst 3, 1) := by decide +kernel
theorem dX0_drawStep_29 : decode cX0_drawStep 29 = .ok (.if_icmp .ge 33, 3) := by decide +kernel
theorem dX0_drawStep_32 : decode cX0_drawStep 32 = .ok (.iload_n 1, 1) := by decide +kernel
theorem dX0_drawStep_33 : decode cX0_drawStep 33 = .ok (.iload 4, 2) := by decide +kernel
theorem dX0_drawStep_35 : decode cX0_drawStep 35 = .ok (.iload_n 3, 1) := by decide +kernel
theorem dX0_drawStep_36 : decode cX0_drawStep 36 = .ok (.imul, 1) := by decide +kernel
theorem dX0_drawStep_37 : decode cX0_drawStep 37 = .ok (.iadd, 1) := by decide +kernel
theorem dX0_drawStep_38 : decode cX0_drawStep 38 = .ok (.istore 5, 2) := by decide +kernel
theorem dX0_drawStep_40 : decode cX0_drawStep 40 = .ok (.iload 5, 2) := by decide +kernel
theorem dX0_drawStep_42 : decode cX0_drawStep 42 = .ok (.invokestatic 54, 3) := by decide +kernel
theorem dX0_drawStep_45 : decode cX0_drawStep 45 = .ok (.ifCond .eq 11, 3) := by decide +kernel
theorem dX0_drawStep_48 : decode cX0_drawStep 48 = .ok (.aload_n 0, 1) := by decide +kernel
theorem dX0_drawStep_49 : decode cX0_drawStep 49 = .ok (.getfield 9, 3) := by decide +kernel
theorem dX0_drawStep_52 : decode cX0_drawStep 52 = .ok (.iload 5, 2) := by decide +kernel
theorem dX0_drawStep_54 : decode cX0_drawStep 54 = .ok (.iconst 1, 1) := by decide +kernel
theorem dX0_drawStep_55 : decode cX0_drawStep 55 = .ok (.iastore, 1) := by decide +kernel
theorem dX0_drawStep_56 : decode cX0_drawStep 56 = .ok (.iinc 4 1, 3) := by decide +kernel
theorem dX0_drawStep_59 : decode cX0_drawStep 59 = .ok (.goto (-33), 3) := by decide +kernel
theorem dX0_drawStep_62 : decode cX0_drawStep 62 = .ok (.return_, 1) := by decide +kernel
set_option maxRecDepth 200000 in
theorem ggX0_spread_X0_reach : GoodIn wsX0_spread wsX0_reach := goodIn_r _ [7, 8, 1, 2, 9, 10, 6, 11, 12, 13, 14] rfl (by decide +kernel)
set_option maxRecDepth 200000 in
theorem gX0_spread_X0_reach : GoodIn wsX0_spread (wsV RX0 61 RX0 yX0_reach wsX0_reach) := goodIn_app (goodIn_of _ (by decide +kernel)) ggX0_spread_X0_reach
theorem dX0_spread_0 : decode cX0_spread 0 = .ok (.aload_n 0, 1) := by decide +kernel
theorem dX0_spread_1 : decode cX0_spread 1 = .ok (.iconst 0, 1) := by decide +kernel
theorem dX0_spread_2 : decode cX0_spread 2 = .ok (.putfield 57, 3) := by decide +kernel
theorem dX0_spread_5 : decode cX0_spread 5 = .ok (.aload_n 0, 1) := by decide +kernel
theorem dX0_spread_6 : decode cX0_spread 6 = .ok (.iconst 0, 1) := by decide +kernel
theorem dX0_spread_7 : decode cX0_spread 7 = .ok (.invokevirtual 61, 3) := by decide +kernel
theorem dX0_spread_10 : decode cX0_spread 10 = .ok (.iconst 0, 1) := by decide +kernel
theorem dX0_spread_11 : decode cX0_spread 11 = .ok (.istore_n 1, 1) := by decide +kernel
theorem dX0_spread_12 : decode cX0_spread 12 = .ok (.iload_n 1, 1) := by decide +kernel
theorem dX0_spread_13 : decode cX0_spread 13 = .ok (.aload_n 0, 1) := by decide +kernel
theorem dX0_spread_14 : decode cX0_spread 14 = .ok (.getfield 57, 3) := by decide +kernel
theorem dX0_spread_17 : decode cX0_spread 17 = .ok (.if_icmp .ge 68, 3) := by decide +kernel
theorem dX0_spread_20 : decode cX0_spread 20 = .ok (.iload_n 1, 1) := by decide +kernel
theorem dX0_spread_21 : decode cX0_spread 21 = .ok (.sipush 3456, 3) := by decide +kernel
theorem dX0_spread_24 : decode cX0_spread 24 = .ok (.if_icmp .ge 61, 3) := by decide +kernel
theorem dX0_spread_27 : decode cX0_spread 27 = .ok (.aload_n 0, 1) := by decide +kernel
theorem dX0_spread_28 : decode cX0_spread 28 = .ok (.getfield 13, 3) := by decide +kernel
theorem dX0_spread_31 : decode cX0_spread 31 = .ok (.iload_n 1, 1) := by decide +kernel
theorem dX0_spread_32 : decode cX0_spread 32 = .ok (.iaload, 1) := by decide +kernel
theorem dX0_spread_33 : decode cX0_spread 33 = .ok (.istore_n 2, 1) := by decide +kernel
theorem dX0_spread_34 : decode cX0_spread 34 = .ok (.iload_n 2, 1) := by decide +kernel
theorem dX0_spread_35 : decode cX0_spread 35 = .ok (.bipush 72, 2) := by decide +kernel
theorem dX0_spread_37 : decode cX0_spread 37 = .ok (.irem, 1) := by decide +kernel
theorem dX0_spread_38 : decode cX0_spread 38 = .ok (.istore_n 3, 1) := by decide +kernel
theorem dX0_spread_39 : decode cX0_spread 39 = .ok (.iload_n 3, 1) := by decide +kernel
theorem dX0_spread_40 : decode cX0_spread 40 = .ok (.ifCond .le 10, 3) := by decide +kernel
theorem dX0_spread_43 : decode cX0_spread 43 = .ok (.aload_n 0, 1) := by decide +kernel
theorem dX0_spread_44 : decode cX0_spread 44 = .ok (.iload_n 2, 1) := by decide +kernel
theorem dX0_spread_45 : decode cX0_spread 45 = .ok (.iconst 1, 1) := by decide +kernel
theorem dX0_spread_46 : decode cX0_spread 46 = .ok (.isub, 1) := by decide +kernel
theorem dX0_spread_47 : decode cX0_spread 47 = .ok (.invokevirtual 61, 3) := by decide +kernel
theorem dX0_spread_50 : decode cX0_spread 50 = .ok (.iload_n 3, 1) := by decide +kernel
theorem dX0_spread_51 : decode cX0_spread 51 = .ok (.bipush 71, 2) := by decide +kernel
theorem dX0_spread_53 : decode cX0_spread 53 = .ok (.if_icmp .ge 10, 3) := by decide +kernel
theorem dX0_spread_56 : decode cX0_spread 56 = .ok (.aload_n 0, 1) := by decide +kernel
theorem dX0_spread_57 : decode cX0_spread 57 = .ok (.iload_n 2, 1) := by decide +kernel
theorem dX0_spread_58 : decode cX0_spread 58 = .ok (.iconst 1, 1) := by decide +kernel
theorem dX0_spread_59 : decode cX0_spread 59 = .ok (.iadd, 1) := by decide +kernel
theorem dX0_spread_60 : decode cX0_spread 60 = .ok (.invokevirtual 61, 3) := by decide +kernel
theorem dX0_spread_63 : decode cX0_spread 63 = .ok (.aload_n 0, 1) := by decide +kernel
theorem dX0_spread_64 : decode cX0_spread 64 = .ok (.iload_n 2, 1) := by decide +kernel
theorem dX0_spread_65 : decode cX0_spread 65 = .ok (.bipush 72, 2) := by decide +kernel
theorem dX0_spread_67 : decode cX0_spread 67 = .ok (.isub, 1) := by decide +kernel
theorem dX0_spread_68 : decode cX0_spread 68 = .ok (.invokevirtual 61, 3) := by decide +kernel
theorem dX0_spread_71 : decode cX0_spread 71 = .ok (.aload_n 0, 1) := by decide +kernel
theorem dX0_spread_72 : decode cX0_spread 72 = .ok (.iload_n 2, 1) := by decide +kernel
theorem dX0_spread_73 : decode cX0_spread 73 = .ok (.bipush 72, 2) := by decide +kernel
theorem dX0_spread_75 : decode cX0_spread 75 = .ok (.iadd, 1) := by decide +kernel
theorem dX0_spread_76 : decode cX0_spread 76 = .ok (.invokevirtual 61, 3) := by decide +kernel
theorem dX0_spread_79 : decode cX0_spread 79 = .ok (.iinc 1 1, 3) := by decide +kernel
theorem dX0_spread_82 : decode cX0_spread 82 = .ok (.goto (-70), 3) := by decide +kernel
theorem dX0_spread_85 : decode cX0_spread 85 = .ok (.return_, 1) := by decide +kernel
set_option maxRecDepth 200000 in
theorem ggX0_reach_X0_isDot : GoodIn wsX0_reach wsX0_isDot := goodIn_r _ [7] rfl (by decide +kernel)
set_option maxRecDepth 200000 in
theorem gX0_reach_X0_isDot : GoodIn wsX0_reach (va_wsS RX0 54 yX0_isDot wsX0_isDot) := goodIn_app (goodIn_of _ (by decide +kernel)) ggX0_reach_X0_isDot
theorem dX0_reach_0 : decode cX0_reach 0 = .ok (.iload_n 1, 1) := by decide +kernel
theorem dX0_reach_1 : decode cX0_reach 1 = .ok (.invokestatic 54, 3) := by decide +kernel
theorem dX0_reach_4 : decode cX0_reach 4 = .ok (.ifCond .eq 49, 3) := by decide +kernel
theorem dX0_reach_7 : decode cX0_reach 7 = .ok (.aload_n 0, 1) := by decide +kernel
theorem dX0_reach_8 : decode cX0_reach 8 = .ok (.getfield 9, 3) := by decide +kernel
theorem dX0_reach_11 : decode cX0_reach 11 = .ok (.iload_n 1, 1) := by decide +kernel
theorem dX0_reach_12 : decode cX0_reach 12 = .ok (.iaload, 1) := by decide +kernel
theorem dX0_reach_13 : decode cX0_reach 13 = .ok (.ifCond .ne 40, 3) := by decide +kernel
theorem dX0_reach_16 : decode cX0_reach 16 = .ok (.aload_n 0, 1) := by decide +kernel
theorem dX0_reach_17 : decode cX0_reach 17 = .ok (.getfield 57, 3) := by decide +kernel
theorem dX0_reach_20 : decode cX0_reach 20 = .ok (.sipush 3456, 3) := by decide +kernel
theorem dX0_reach_23 : decode cX0_reach 23 = .ok (.if_icmp .ge 30, 3) := by decide +kernel
theorem dX0_reach_26 : decode cX0_reach 26 = .ok (.aload_n 0, 1) := by decide +kernel
theorem dX0_reach_27 : decode cX0_reach 27 = .ok (.getfield 9, 3) := by decide +kernel
theorem dX0_reach_30 : decode cX0_reach 30 = .ok (.iload_n 1, 1) := by decide +kernel
theorem dX0_reach_31 : decode cX0_reach 31 = .ok (.iconst 2, 1) := by decide +kernel
theorem dX0_reach_32 : decode cX0_reach 32 = .ok (.iastore, 1) := by decide +kernel
theorem dX0_reach_33 : decode cX0_reach 33 = .ok (.aload_n 0, 1) := by decide +kernel
theorem dX0_reach_34 : decode cX0_reach 34 = .ok (.getfield 13, 3) := by decide +kernel
theorem dX0_reach_37 : decode cX0_reach 37 = .ok (.aload_n 0, 1) := by decide +kernel
theorem dX0_reach_38 : decode cX0_reach 38 = .ok (.getfield 57, 3) := by decide +kernel
theorem dX0_reach_41 : decode cX0_reach 41 = .ok (.iload_n 1, 1) := by decide +kernel
theorem dX0_reach_42 : decode cX0_reach 42 = .ok (.iastore, 1) := by decide +kernel
theorem dX0_reach_43 : decode cX0_reach 43 = .ok (.aload_n 0, 1) := by decide +kernel
theorem dX0_reach_44 : decode cX0_reach 44 = .ok (.dup, 1) := by decide +kernel
theorem dX0_reach_45 : decode cX0_reach 45 = .ok (.getfield 57, 3) := by decide +kernel
theorem dX0_reach_48 : decode cX0_reach 48 = .ok (.iconst 1, 1) := by decide +kernel
theorem dX0_reach_49 : decode cX0_reach 49 = .ok (.iadd, 1) := by decide +kernel
theorem dX0_reach_50 : decode cX0_reach 50 = .ok (.putfield 57, 3) := by decide +kernel
theorem dX0_reach_53 : decode cX0_reach 53 = .ok (.return_, 1) := by decide +kernel
set_option maxRecDepth 200000 in
theorem ggX0_isLeftOut_X0_dotOf : GoodIn wsX0_isLeftOut wsX0_dotOf := goodIn_r _ [5, 6, 7, 8, 9, 10] rfl (by decide +kernel)
set_option maxRecDepth 200000 in
theorem gX0_isLeftOut_X0_dotOf : GoodIn wsX0_isLeftOut (va_wsS RX0 34 yX0_dotOf wsX0_dotOf) := goodIn_app (goodIn_of _ (by decide +kernel)) ggX0_isLeftOut_X0_dotOf
set_option maxRecDepth 200000 in
theorem ggX0_isLeftOut_X0_isDot : GoodIn wsX0_isLeftOut wsX0_isDot := goodIn_r _ [13] rfl (by decide +kernel)
set_option maxRecDepth 200000 in
theorem gX0_isLeftOut_X0_isDot : GoodIn wsX0_isLeftOut (va_wsS RX0 54 yX0_isDot wsX0_isDot) := goodIn_app (goodIn_of _ (by decide +kernel)) ggX0_isLeftOut_X0_isDot
theorem dX0_isLeftOut_0 : decode cX0_isLeftOut 0 = .ok (.iload_n 1, 1) := by decide +kernel
theorem dX0_isLeftOut_1 : decode cX0_isLeftOut 1 = .ok (.invokestatic 34, 3) := by decide +kernel
theorem dX0_isLeftOut_4 : decode cX0_isLeftOut 4 = .ok (.istore_n 2, 1) := by decide +kernel
theorem dX0_isLeftOut_5 : decode cX0_isLeftOut 5 = .ok (.iload_n 2, 1) := by decide +kernel
theorem dX0_isLeftOut_6 : decode cX0_isLeftOut 6 = .ok (.invokestatic 54, 3) := by decide +kernel
theorem dX0_isLeftOut_9 : decode cX0_isLeftOut 9 = .ok (.ifCond .eq 16, 3) := by decide +kernel
theorem dX0_isLeftOut_12 : decode cX0_isLeftOut 12 = .ok (.aload_n 0, 1) := by decide +kernel
theorem dX0_isLeftOut_13 : decode cX0_isLeftOut 13 = .ok (.getfield 9, 3) := by decide +kernel
theorem dX0_isLeftOut_16 : decode cX0_isLeftOut 16 = .ok (.iload_n 2, 1) := by decide +kernel
theorem dX0_isLeftOut_17 : decode cX0_isLeftOut 17 = .ok (.iaload, 1) := by decide +kernel
theorem dX0_isLeftOut_18 : decode cX0_isLeftOut 18 = .ok (.ifCond .ne 7, 3) := by decide +kernel
theorem dX0_isLeftOut_21 : decode cX0_isLeftOut 21 = .ok (.iconst 1, 1) := by decide +kernel
theorem dX0_isLeftOut_22 : decode cX0_isLeftOut 22 = .ok (.goto 4, 3) := by decide +kernel
theorem dX0_isLeftOut_25 : decode cX0_isLeftOut 25 = .ok (.iconst 0, 1) := by decide +kernel
theorem dX0_isLeftOut_26 : decode cX0_isLeftOut 26 = .ok (.ireturn, 1) := by decide +kernel
set_option maxRecDepth 200000 in
theorem ggX1_init_X4_init : GoodIn wsX1_init wsX4_init := goodIn_r _ [11, 12, 2, 3, 13, 14, 15, 16, 17, 18, 24, 25, 26, 27, 28, 29] rfl (by decide +kernel)
set_option maxRecDepth 200000 in
theorem gX1_init_X4_init : GoodIn wsX1_init (wsX4_init) := ggX1_init_X4_init
theorem dX1_init_0 : decode cX1_init 0 = .ok (.aload_n 0, 1) := by decide +kernel
theorem dX1_init_1 : decode cX1_init 1 = .ok (.invokespecial 1, 3) := by decide +kernel
theorem dX1_init_4 : decode cX1_init 4 = .ok (.aload_n 0, 1) := by decide +kernel
theorem dX1_init_5 : decode cX1_init 5 = .ok (.iconst 5, 1) := by decide +kernel
theorem dX1_init_6 : decode cX1_init 6 = .ok (.anewarray 9, 3) := by decide +kernel
theorem dX1_init_9 : decode cX1_init 9 = .ok (.putfield 11, 3) := by decide +kernel
theorem dX1_init_12 : decode cX1_init 12 = .ok (.iconst 0, 1) := by decide +kernel
theorem dX1_init_13 : decode cX1_init 13 = .ok (.istore_n 1, 1) := by decide +kernel
theorem dX1_init_14 : decode cX1_init 14 = .ok (.iload_n 1, 1) := by decide +kernel
theorem dX1_init_15 : decode cX1_init 15 = .ok (.iconst 5, 1) := by decide +kernel
theorem dX1_init_16 : decode cX1_init 16 = .ok (.if_icmp .ge 22, 3) := by decide +kernel
theorem dX1_init_19 : decode cX1_init 19 = .ok (.aload_n 0, 1) := by decide +kernel
theorem dX1_init_20 : decode cX1_init 20 = .ok (.getfield 11, 3) := by decide +kernel
theorem dX1_init_23 : decode cX1_init 23 = .ok (.iload_n 1, 1) := by decide +kernel
theorem dX1_init_24 : decode cX1_init 24 = .ok (.new 9, 3) := by decide +kernel
theorem dX1_init_27 : decode cX1_init 27 = .ok (.dup, 1) := by decide +kernel
theorem dX1_init_28 : decode cX1_init 28 = .ok (.invokespecial 15, 3) := by decide +kernel
theorem dX1_init_31 : decode cX1_init 31 = .ok (.aastore, 1) := by decide +kernel
theorem dX1_init_32 : decode cX1_init 32 = .ok (.iinc 1 1, 3) := by decide +kernel
theorem dX1_init_35 : decode cX1_init 35 = .ok (.goto (-21), 3) := by decide +kernel
theorem dX1_init_38 : decode cX1_init 38 = .ok (.aload_n 0, 1) := by decide +kernel
theorem dX1_init_39 : decode cX1_init 39 = .ok (.new 9, 3) := by decide +kernel
theorem dX1_init_42 : decode cX1_init 42 = .ok (.dup, 1) := by decide +kernel
theorem dX1_init_43 : decode cX1_init 43 = .ok (.invokespecial 15, 3) := by decide +kernel
theorem dX1_init_46 : decode cX1_init 46 = .ok (.putfield 16, 3) := by decide +kernel
theorem dX1_init_49 : decode cX1_init 49 = .ok (.return_, 1) := by decide +kernel
set_option maxRecDepth 200000 in
theorem ggX1_save_X1_savedAt : GoodIn wsX1_save wsX1_savedAt := goodIn_r _ [7, 8, 2, 27, 28, 29, 30, 31] rfl (by decide +kernel)
set_option maxRecDepth 200000 in
theorem gX1_save_X1_savedAt : GoodIn wsX1_save (wsV RX1 27 RX1 yX1_savedAt wsX1_savedAt) := goodIn_app (goodIn_of _ (by decide +kernel)) ggX1_save_X1_savedAt
set_option maxRecDepth 200000 in
theorem ggX1_save_X1_copy : GoodIn wsX1_save wsX1_copy := goodIn_r _ [11, 12, 13, 14, 15, 16, 17, 18, 19, 20, 21, 22, 23, 24, 25, 26, 32, 33, 34, 35, 36, 37] rfl (by decide +kernel)
set_option maxRecDepth 200000 in
theorem gX1_save_X1_copy : GoodIn wsX1_save (va_wsS RX1 31 yX1_copy wsX1_copy) := goodIn_app (goodIn_of _ (by decide +kernel)) ggX1_save_X1_copy
theorem dX1_save_0 : decode cX1_save 0 = .ok (.aload_n 0, 1) := by decide +kernel
theorem dX1_save_1 : decode cX1_save 1 = .ok (.getfield 20, 3) := by decide +kernel
theorem dX1_save_4 : decode cX1_save 4 = .ok (.iconst 5, 1) := by decide +kernel
theorem dX1_save_5 : decode cX1_save 5 = .ok (.if_icmp .ne 25, 3) := by decide +kernel
theorem dX1_save_8 : decode cX1_save 8 = .ok (.aload_n 0, 1) := by decide +kernel
theorem dX1_save_9 : decode cX1_save 9 = .ok (.aload_n 0, 1) := by decide +kernel
theorem dX1_save_10 : decode cX1_save 10 = .ok (.getfield 24, 3) := by decide +kernel
theorem dX1_save_13 : decode cX1_save 13 = .ok (.iconst 1, 1) := by decide +kernel
theorem dX1_save_14 : decode cX1_save 14 = .ok (.iadd, 1) := by decide +kernel
theorem dX1_save_15 : decode cX1_save 15 = .ok (.iconst 5, 1) := by decide +kernel
theorem dX1_save_16 : decode cX1_save 16 = .ok (.irem, 1) := by decide +kernel
theorem dX1_save_17 : decode cX1_save 17 = .ok (.putfield 24, 3) := by decide +kernel
theorem dX1_save_20 : decode cX1_save 20 = .ok (.aload_n 0, 1) := by decide +kernel
theorem dX1_save_21 : decode cX1_save 21 = .ok (.dup, 1) := by decide +kernel
theorem dX1_save_22 : decode cX1_save 22 = .ok (.getfield 20, 3) := by decide +kernel
theorem dX1_save_25 : decode cX1_save 25 = .ok (.iconst 1, 1) := by decide +kernel
theorem dX1_save_26 : decode cX1_save 26 = .ok (.isub, 1) := by decide +kernel
theorem dX1_save_27 : decode cX1_save 27 = .ok (.putfield 20, 3) := by decide +kernel
theorem dX1_save_30 : decode cX1_save 30 = .ok (.aload_n 1, 1) := by decide +kernel
theorem dX1_save_31 : decode cX1_save 31 = .ok (.aload_n 0, 1) := by decide +kernel
theorem dX1_save_32 : decode cX1_save 32 = .ok (.aload_n 0, 1) := by decide +kernel
theorem dX1_save_33 : decode cX1_save 33 = .ok (.getfield 20, 3) := by decide +kernel
theorem dX1_save_36 : decode cX1_save 36 = .ok (.invokevirtual 27, 3) := by decide +kernel
theorem dX1_save_39 : decode cX1_save 39 = .ok (.invokestatic 31, 3) := by decide +kernel
theorem dX1_save_42 : decode cX1_save 42 = .ok (.aload_n 0, 1) := by decide +kernel
theorem dX1_save_43 : decode cX1_save 43 = .ok (.dup, 1) := by decide +kernel
theorem dX1_save_44 : decode cX1_save 44 = .ok (.getfield 20, 3) := by decide +kernel
theorem dX1_save_47 : decode cX1_save 47 = .ok (.iconst 1, 1) := by decide +kernel
theorem dX1_save_48 : decode cX1_save 48 = .ok (.iadd, 1) := by decide +kernel
theorem dX1_save_49 : decode cX1_save 49 = .ok (.putfield 20, 3) := by decide +kernel
theorem dX1_save_52 : decode cX1_save 52 = .ok (.return_, 1) := by decide +kernel
theorem dX1_savedAt_0 : decode cX1_savedAt 0 = .ok (.aload_n 0, 1) := by decide +kernel
theorem dX1_savedAt_1 : decode cX1_savedAt 1 = .ok (.getfield 11, 3) := by decide +kernel
theorem dX1_savedAt_4 : decode cX1_savedAt 4 = .ok (.aload_n 0, 1) := by decide +kernel
theorem dX1_savedAt_5 : decode cX1_savedAt 5 = .ok (.getfield 24, 3) := by decide +kernel
theorem dX1_savedAt_8 : decode cX1_savedAt 8 = .ok (.iload_n 1, 1) := by decide +kernel
theorem dX1_savedAt_9 : decode cX1_savedAt 9 = .ok (.iadd, 1) := by decide +kernel
theorem dX1_savedAt_10 : decode cX1_savedAt 10 = .ok (.iconst 5, 1) := by decide +kernel
theorem dX1_savedAt_11 : decode cX1_savedAt 11 = .ok (.irem, 1) := by decide +kernel
theorem dX1_savedAt_12 : decode cX1_savedAt 12 = .ok (.aaload, 1) := by decide +kernel
theorem dX1_savedAt_13 : decode cX1_savedAt 13 = .ok (.areturn, 1) := by decide +kernel
set_option maxRecDepth 200000 in
theorem ggX1_copy_X4_copyFrom : GoodIn wsX1_copy wsX4_copyFrom := goodIn_r _ [5, 6, 7, 8, 9, 10, 11, 12, 13, 14, 15, 16, 17, 18, 19, 20, 21] rfl (by decide +kernel)
set_option maxRecDepth 200000 in
theorem gX1_copy_X4_copyFrom : GoodIn wsX1_copy (wsV RX1 35 RX4 yX4_copyFrom wsX4_copyFrom) := goodIn_app (goodIn_of _ (by decide +kernel)) ggX1_copy_X4_copyFrom
theorem dX1_copy_0 : decode cX1_copy 0 = .ok (.aload_n 0, 1) := by decide +kernel
theorem dX1_copy_1 : decode cX1_copy 1 = .ok (.ifnull 12, 3) := by decide +kernel
theorem dX1_copy_4 : decode cX1_copy 4 = .ok (.aload_n 1, 1) := by decide +kernel
theorem dX1_copy_5 : decode cX1_copy 5 = .ok (.ifnull 8, 3) := by decide +kernel
theorem dX1_copy_8 : decode cX1_copy 8 = .ok (.aload_n 1, 1) := by decide +kernel
theorem dX1_copy_9 : decode cX1_copy 9 = .ok (.aload_n 0, 1) := by decide +kernel
theorem dX1_copy_10 : decode cX1_copy 10 = .ok (.invokevirtual 35, 3) := by decide +kernel
theorem dX1_copy_13 : decode cX1_copy 13 = .ok (.return_, 1) := by decide +kernel
set_option maxRecDepth 200000 in
theorem ggX2_lastNumber_X4_sizeIn : GoodIn wsX2_lastNumber wsX4_sizeIn := goodIn_r _ [5, 6, 7, 8, 9, 10, 11, 12, 13] rfl (by decide +kernel)
set_option maxRecDepth 200000 in
theorem gX2_lastNumber_X4_sizeIn : GoodIn wsX2_lastNumber (wsV RX2 9 RX4 yX4_sizeIn wsX4_sizeIn) := goodIn_app (goodIn_of _ (by decide +kernel)) ggX2_lastNumber_X4_sizeIn
theorem dX2_lastNumber_0 : decode cX2_lastNumber 0 = .ok (.iload_n 2, 1) := by decide +kernel
theorem dX2_lastNumber_1 : decode cX2_lastNumber 1 = .ok (.aload_n 0, 1) := by decide +kernel
theorem dX2_lastNumber_2 : decode cX2_lastNumber 2 = .ok (.iload_n 1, 1) := by decide +kernel
theorem dX2_lastNumber_3 : decode cX2_lastNumber 3 = .ok (.invokevirtual 9, 3) := by decide +kernel
theorem dX2_lastNumber_6 : decode cX2_lastNumber 6 = .ok (.iadd, 1) := by decide +kernel
theorem dX2_lastNumber_7 : decode cX2_lastNumber 7 = .ok (.iconst 1, 1) := by decide +kernel
theorem dX2_lastNumber_8 : decode cX2_lastNumber 8 = .ok (.isub, 1) := by decide +kernel
theorem dX2_lastNumber_9 : decode cX2_lastNumber 9 = .ok (.ireturn, 1) := by decide +kernel
set_option maxRecDepth 200000 in
theorem ggX2_isPlace_X4_stepCount : GoodIn wsX2_isPlace wsX4_stepCount := goodIn_r _ [5, 6, 7, 22, 23, 24, 25, 26, 27] rfl (by decide +kernel)
set_option maxRecDepth 200000 in
theorem gX2_isPlace_X4_stepCount : GoodIn wsX2_isPlace (wsV RX2 15 RX4 yX4_stepCount wsX4_stepCount) := goodIn_app (goodIn_of _ (by decide +kernel)) ggX2_isPlace_X4_stepCount
set_option maxRecDepth 200000 in
theorem ggX2_isPlace_X4_isRing : GoodIn wsX2_isPlace wsX4_isRing := goodIn_r _ [11, 6, 7, 12, 22, 23, 24, 25, 26, 27] rfl (by decide +kernel)
set_option maxRecDepth 200000 in
theorem gX2_isPlace_X4_isRing : GoodIn wsX2_isPlace (wsV RX2 18 RX4 yX4_isRing wsX4_isRing) := goodIn_app (goodIn_of _ (by decide +kernel)) ggX2_isPlace_X4_isRing
set_option maxRecDepth 200000 in
theorem ggX2_isPlace_X4_hasNumber : GoodIn wsX2_isPlace wsX4_hasNumber := goodIn_r _ [16, 6, 7, 22, 23, 24, 25, 26, 27] rfl (by decide +kernel)
set_option maxRecDepth 200000 in
theorem gX2_isPlace_X4_hasNumber : GoodIn wsX2_isPlace (wsV RX2 22 RX4 yX4_hasNumber wsX4_hasNumber) := goodIn_app (goodIn_of _ (by decide +kernel)) ggX2_isPlace_X4_hasNumber
set_option maxRecDepth 200000 in
theorem ggX2_isPlace_X4_sizeIn : GoodIn wsX2_isPlace wsX4_sizeIn := goodIn_r _ [20, 6, 21, 22, 23, 24, 25, 26, 27] rfl (by decide +kernel)
set_option maxRecDepth 200000 in
theorem gX2_isPlace_X4_sizeIn : GoodIn wsX2_isPlace (wsV RX2 9 RX4 yX4_sizeIn wsX4_sizeIn) := goodIn_app (goodIn_of _ (by decide +kernel)) ggX2_isPlace_X4_sizeIn
theorem dX2_isPlace_0 : decode cX2_isPlace 0 = .ok (.aload_n 0, 1) := by decide +kernel
theorem dX2_isPlace_1 : decode cX2_isPlace 1 = .ok (.iload_n 1, 1) := by decide +kernel
theorem dX2_isPlace_2 : decode cX2_isPlace 2 = .ok (.invokevirtual 15, 3) := by decide +kernel
theorem dX2_isPlace_5 : decode cX2_isPlace 5 = .ok (.iconst 1, 1) := by decide +kernel
theorem dX2_isPlace_6 : decode cX2_isPlace 6 = .ok (.iadd, 1) := by decide +kernel
theorem dX2_isPlace_7 : decode cX2_isPlace 7 = .ok (.istore_n 3, 1) := by decide +kernel
theorem dX2_isPlace_8 : decode cX2_isPlace 8 = .ok (.aload_n 0, 1) := by decide +kernel
theorem dX2_isPlace_9 : decode cX2_isPlace 9 = .ok (.iload_n 1, 1) := by decide +kernel
theorem dX2_isPlace_10 : decode cX2_isPlace 10 = .ok (.invokevirtual 18, 3) := by decide +kernel
theorem dX2_isPlace_13 : decode cX2_isPlace 13 = .ok (.ifCond .eq 6, 3) := by decide +kernel
theorem dX2_isPlace_16 : decode cX2_isPlace 16 = .ok (.iinc 3 (-1), 3) := by decide +kernel
theorem dX2_isPlace_19 : decode cX2_isPlace 19 = .ok (.aload_n 0, 1) := by decide +kernel
theorem dX2_isPlace_20 : decode cX2_isPlace 20 = .ok (.iload_n 1, 1) := by decide +kernel
theorem dX2_isPlace_21 : decode cX2_isPlace 21 = .ok (.iload_n 2, 1) := by decide +kernel
theorem dX2_isPlace_22 : decode cX2_isPlace 22 = .ok (.invokevirtual 22, 3) := by decide +kernel
theorem dX2_isPlace_25 : decode cX2_isPlace 25 = .ok (.ifCond .eq 18, 3) := by decide +kernel
theorem dX2_isPlace_28 : decode cX2_isPlace 28 = .ok (.iload_n 2, 1) := by decide +kernel
theorem dX2_isPlace_29 : decode cX2_isPlace 29 = .ok (.aload_n 0, 1) := by decide +kernel
theorem dX2_isPlace_30 : decode cX2_isPlace 30 = .ok (.iload_n 1, 1) := by decide +kernel
theorem dX2_isPlace_31 : decode cX2_isPlace 31 = .ok (.invokevirtual 9, 3) := by decide +kernel
theorem dX2_isPlace_34 : decode cX2_isPlace 34 = .ok (.iadd, 1) := by decide +kernel
theorem dX2_isPlace_35 : decode cX2_isPlace 35 = .ok (.iload_n 3, 1) := by decide +kernel
theorem dX2_isPlace_36 : decode cX2_isPlace 36 = .ok (.if_icmp .gt 7, 3) := by decide +kernel
theorem dX2_isPlace_39 : decode cX2_isPlace 39 = .ok (.iconst 1, 1) := by decide +kernel
theorem dX2_isPlace_40 : decode cX2_isPlace 40 = .ok (.goto 4, 3) := by decide +kernel
theorem dX2_isPlace_43 : decode cX2_isPlace 43 = .ok (.iconst 0, 1) := by decide +kernel
theorem dX2_isPlace_44 : decode cX2_isPlace 44 = .ok (.ireturn, 1) := by decide +kernel
set_option maxRecDepth 200000 in
theorem ggX2_bendOfPlace_X2_isPlace : GoodIn wsX2_bendOfPlace wsX2_isPlace := goodIn_r _ [4, 5, 6, 7, 8, 9, 10, 11, 12, 13, 14, 15, 16, 17, 18, 19, 20, 21, 22, 23, 24, 25, 46, 47, 48, 49, 50, 51] rfl (by decide +kernel)
set_option maxRecDepth 200000 in
theorem gX2_bendOfPlace_X2_isPlace : GoodIn wsX2_bendOfPlace (va_wsS RX2 26 yX2_isPlace wsX2_isPlace) := goodIn_app (goodIn_of _ (by decide +kernel)) ggX2_bendOfPlace_X2_isPlace
set_option maxRecDepth 200000 in
theorem ggX2_bendOfPlace_X2_lastNumber : GoodIn wsX2_bendOfPlace wsX2_lastNumber := goodIn_r _ [28, 21, 22, 23, 8, 24, 10, 25, 46, 47, 48, 49, 50, 51] rfl (by decide +kernel)
set_option maxRecDepth 200000 in
theorem gX2_bendOfPlace_X2_lastNumber : GoodIn wsX2_bendOfPlace (va_wsS RX2 32 yX2_lastNumber wsX2_lastNumber) := goodIn_app (goodIn_of _ (by decide +kernel)) ggX2_bendOfPlace_X2_lastNumber
set_option maxRecDepth 200000 in
theorem ggX2_bendOfPlace_X4_hasNumber : GoodIn wsX2_bendOfPlace wsX4_hasNumber := goodIn_r _ [20, 10, 11, 46, 47, 48, 49, 50, 51] rfl (by decide +kernel)
set_option maxRecDepth 200000 in
theorem gX2_bendOfPlace_X4_hasNumber : GoodIn wsX2_bendOfPlace (wsV RX2 22 RX4 yX4_hasNumber wsX4_hasNumber) := goodIn_app (goodIn_of _ (by decide +kernel)) ggX2_bendOfPlace_X4_hasNumber
set_option maxRecDepth 200000 in
theorem ggX2_bendOfPlace_X4_bendThere : GoodIn wsX2_bendOfPlace wsX4_bendThere := goodIn_r _ [32, 33, 34, 35, 36, 37, 38, 39, 40, 41, 42, 8, 43, 10, 11, 16, 44, 13, 14, 15, 45, 6, 7, 9, 46, 47, 48, 49, 50, 51] rfl (by decide +kernel)
set_option maxRecDepth 200000 in
theorem gX2_bendOfPlace_X4_bendThere : GoodIn wsX2_bendOfPlace (wsV RX2 36 RX4 yX4_bendThere wsX4_bendThere) := goodIn_app (goodIn_of _ (by decide +kernel)) ggX2_bendOfPlace_X4_bendThere
theorem dX2_bendOfPlace_0 : decode cX2_bendOfPlace 0 = .ok (.aload_n 0, 1) := by decide +kernel
theorem dX2_bendOfPlace_1 : decode cX2_bendOfPlace 1 = .ok (.iload_n 1, 1) := by decide +kernel
theorem dX2_bendOfPlace_2 : decode cX2_bendOfPlace 2 = .ok (.iload_n 2, 1) := by decide +kernel
theorem dX2_bendOfPlace_3 : decode cX2_bendOfPlace 3 = .ok (.invokestatic 26, 3) := by decide +kernel
theorem dX2_bendOfPlace_6 : decode cX2_bendOfPlace 6 = .ok (.ifCond .ne 5, 3) := by decide +kernel
theorem dX2_bendOfPlace_9 : decode cX2_bendOfPlace 9 = .ok (.iconst (-1), 1) := by decide +kernel
theorem dX2_bendOfPlace_10 : decode cX2_bendOfPlace 10 = .ok (.ireturn, 1) := by decide +kernel
theorem dX2_bendOfPlace_11 : decode cX2_bendOfPlace 11 = .ok (.aload_n 0, 1) := by decide +kernel
theorem dX2_bendOfPlace_12 : decode cX2_bendOfPlace 12 = .ok (.iload_n 1, 1) := by decide +kernel
theorem dX2_bendOfPlace_13 : decode cX2_bendOfPlace 13 = .ok (.iload_n 2, 1) := by decide +kernel
theorem dX2_bendOfPlace_14 : decode cX2_bendOfPlace 14 = .ok (.invokestatic 32, 3) := by decide +kernel
theorem dX2_bendOfPlace_17 : decode cX2_bendOfPlace 17 = .ok (.iconst 1, 1) := by decide +kernel
theorem dX2_bendOfPlace_18 : decode cX2_bendOfPlace 18 = .ok (.iadd, 1) := by decide +kernel
theorem dX2_bendOfPlace_19 : decode cX2_bendOfPlace 19 = .ok (.istore_n 3, 1) := by decide +kernel
theorem dX2_bendOfPlace_20 : decode cX2_bendOfPlace 20 = .ok (.iconst 0, 1) := by decide +kernel
theorem dX2_bendOfPlace_21 : decode cX2_bendOfPlace 21 = .ok (.istore 4, 2) := by decide +kernel
theorem dX2_bendOfPlace_23 : decode cX2_bendOfPlace 23 = .ok (.iload_n 2, 1) := by decide +kernel
theorem dX2_bendOfPlace_24 : decode cX2_bendOfPlace 24 = .ok (.iconst 1, 1) := by decide +kernel
theorem dX2_bendOfPlace_25 : decode cX2_bendOfPlace 25 = .ok (.isub, 1) := by decide +kernel
theorem dX2_bendOfPlace_26 : decode cX2_bendOfPlace 26 = .ok (.istore 5, 2) := by decide +kernel
theorem dX2_bendOfPlace_28 : decode cX2_bendOfPlace 28 = .ok (.iload 5, 2) := by decide +kernel
theorem dX2_bendOfPlace_30 : decode cX2_bendOfPlace 30 = .ok (.iload_n 3, 1) := by decide +kernel
theorem dX2_bendOfPlace_31 : decode cX2_bendOfPlace 31 = .ok (.if_icmp .gt 31, 3) := by decide +kernel
theorem dX2_bendOfPlace_34 : decode cX2_bendOfPlace 34 = .ok (.aload_n 0, 1) := by decide +kernel
theorem dX2_bendOfPlace_35 : decode cX2_bendOfPlace 35 = .ok (.iload_n 1, 1) := by decide +kernel
theorem dX2_bendOfPlace_36 : decode cX2_bendOfPlace 36 = .ok (.iload 5, 2) := by decide +kernel
theorem dX2_bendOfPlace_38 : decode cX2_bendOfPlace 38 = .ok (.invokevirtual 22, 3) := by decide +kernel
theorem dX2_bendOfPlace_41 : decode cX2_bendOfPlace 41 = .ok (.ifCond .eq 15, 3) := by decide +kernel
theorem dX2_bendOfPlace_44 : decode cX2_bendOfPlace 44 = .ok (.iload 4, 2) := by decide +kernel
theorem dX2_bendOfPlace_46 : decode cX2_bendOfPlace 46 = .ok (.aload_n 0, 1) := by decide +kernel
theorem dX2_bendOfPlace_47 : decode cX2_bendOfPlace 47 = .ok (.iload_n 1, 1) := by decide +kernel
theorem dX2_bendOfPlace_48 : decode cX2_bendOfPlace 48 = .ok (.iload 5, 2) := by decide +kernel
theorem dX2_bendOfPlace_50 : decode cX2_bendOfPlace 50 = .ok (.invokevirtual 36, 3) := by decide +kernel
theorem dX2_bendOfPlace_53 : decode cX2_bendOfPlace 53 = .ok (.iadd, 1) := by decide +kernel
theorem dX2_bendOfPlace_54 : decode cX2_bendOfPlace 54 = .ok (.istore 4, 2) := by decide +kernel
theorem dX2_bendOfPlace_56 : decode cX2_bendOfPlace 56 = .ok (.iinc 5 1, 3) := by decide +kernel
theorem dX2_bendOfPlace_59 : decode cX2_bendOfPlace 59 = .ok (.goto (-31), 3) := by decide +kernel
theorem dX2_bendOfPlace_62 : decode cX2_bendOfPlace 62 = .ok (.iload 4, 2) := by decide +kernel
theorem dX2_bendOfPlace_64 : decode cX2_bendOfPlace 64 = .ok (.ireturn, 1) := by decide +kernel
set_option maxRecDepth 200000 in
theorem ggX2_goesLeft_X4_pointAt : GoodIn wsX2_goesLeft wsX4_pointAt := goodIn_r _ [5, 6, 7, 8, 21, 22, 23, 24, 25, 26] rfl (by decide +kernel)
set_option maxRecDepth 200000 in
theorem gX2_goesLeft_X4_pointAt : GoodIn wsX2_goesLeft (wsV RX2 40 RX4 yX4_pointAt wsX4_pointAt) := goodIn_app (goodIn_of _ (by decide +kernel)) ggX2_goesLeft_X4_pointAt
set_option maxRecDepth 200000 in
theorem ggX2_goesLeft_X2_lastNumber : GoodIn wsX2_goesLeft wsX2_lastNumber := goodIn_r _ [12, 13, 14, 15, 4, 16, 6, 17, 21, 22, 23, 24, 25, 26] rfl (by decide +kernel)
set_option maxRecDepth 200000 in
theorem gX2_goesLeft_X2_lastNumber : GoodIn wsX2_goesLeft (va_wsS RX2 32 yX2_lastNumber wsX2_lastNumber) := goodIn_app (goodIn_of _ (by decide +kernel)) ggX2_goesLeft_X2_lastNumber
set_option maxRecDepth 200000 in
theorem ggX2_goesLeft_X6_columnOf : GoodIn wsX2_goesLeft wsX6_columnOf := goodIn_r _ [20] rfl (by decide +kernel)
set_option maxRecDepth 200000 in
theorem gX2_goesLeft_X6_columnOf_n43 : GoodIn wsX2_goesLeft (wsX6_columnOf) := ggX2_goesLeft_X6_columnOf
theorem dX2_goesLeft_0 : decode cX2_goesLeft 0 = .ok (.aload_n 0, 1) := by decide +kernel
theorem dX2_goesLeft_1 : decode cX2_goesLeft 1 = .ok (.iload_n 1, 1) := by decide +kernel
theorem dX2_goesLeft_2 : decode cX2_goesLeft 2 = .ok (.iload_n 2, 1) := by decide +kernel
theorem dX2_goesLeft_3 : decode cX2_goesLeft 3 = .ok (.invokevirtual 40, 3) := by decide +kernel
theorem dX2_goesLeft_6 : decode cX2_goesLeft 6 = .ok (.istore_n 3, 1) := by decide +kernel
theorem dX2_goesLeft_7 : decode cX2_goesLeft 7 = .ok (.aload_n 0, 1) := by decide +kernel
theorem dX2_goesLeft_8 : decode cX2_goesLeft 8 = .ok (.iload_n 1, 1) := by decide +kernel
theorem dX2_goesLeft_9 : decode cX2_goesLeft 9 = .ok (.aload_n 0, 1) := by decide +kernel
theorem dX2_goesLeft_10 : decode cX2_goesLeft 10 = .ok (.iload_n 1, 1) := by decide +kernel
theorem dX2_goesLeft_11 : decode cX2_goesLeft 11 = .ok (.iload_n 2, 1) := by decide +kernel
theorem dX2_goesLeft_12 : decode cX2_goesLeft 12 = .ok (.invokestatic 32, 3) := by decide +kernel
theorem dX2_goesLeft_15 : decode cX2_goesLeft 15 = .ok (.invokevirtual 40, 3) := by decide +kernel
theorem dX2_goesLeft_18 : decode cX2_goesLeft 18 = .ok (.istore 4, 2) := by decide +kernel
theorem dX2_goesLeft_20 : decode cX2_goesLeft 20 = .ok (.iload 4, 2) := by decide +kernel
theorem dX2_goesLeft_22 : decode cX2_goesLeft 22 = .ok (.invokestatic 43, 3) := by decide +kernel
theorem dX2_goesLeft_25 : decode cX2_goesLeft 25 = .ok (.iload_n 3, 1) := by decide +kernel
theorem dX2_goesLeft_26 : decode cX2_goesLeft 26 = .ok (.invokestatic 43, 3) := by decide +kernel
theorem dX2_goesLeft_29 : decode cX2_goesLeft 29 = .ok (.if_icmp .ge 7, 3) := by decide +kernel
theorem dX2_goesLeft_32 : decode cX2_goesLeft 32 = .ok (.iconst 1, 1) := by decide +kernel
theorem dX2_goesLeft_33 : decode cX2_goesLeft 33 = .ok (.goto 4, 3) := by decide +kernel
theorem dX2_goesLeft_36 : decode cX2_goesLeft 36 = .ok (.iconst 0, 1) := by decide +kernel
theorem dX2_goesLeft_37 : decode cX2_goesLeft 37 = .ok (.ireturn, 1) := by decide +kernel
set_option maxRecDepth 200000 in
theorem ggX2_stands_X4_pointAt : GoodIn wsX2_stands wsX4_pointAt := goodIn_r _ [9, 10, 11, 12, 27, 28, 29, 30, 31, 32] rfl (by decide +kernel)
set_option maxRecDepth 200000 in
theorem gX2_stands_X4_pointAt : GoodIn wsX2_stands (wsV RX2 40 RX4 yX4_pointAt wsX4_pointAt) := goodIn_app (goodIn_of _ (by decide +kernel)) ggX2_stands_X4_pointAt
set_option maxRecDepth 200000 in
theorem ggX2_stands_X2_lastNumber : GoodIn wsX2_stands wsX2_lastNumber := goodIn_r _ [16, 17, 18, 19, 8, 20, 10, 21, 27, 28, 29, 30, 31, 32] rfl (by decide +kernel)
set_option maxRecDepth 200000 in
theorem gX2_stands_X2_lastNumber : GoodIn wsX2_stands (va_wsS RX2 32 yX2_lastNumber wsX2_lastNumber) := goodIn_app (goodIn_of _ (by decide +kernel)) ggX2_stands_X2_lastNumber
set_option maxRecDepth 200000 in
theorem ggX2_stands_X6_rowOf : GoodIn wsX2_stands wsX6_rowOf := goodIn_r _ [24] rfl (by decide +kernel)
set_option maxRecDepth 200000 in
theorem gX2_stands_X6_rowOf_n46 : GoodIn wsX2_stands (wsX6_rowOf) := ggX2_stands_X6_rowOf
set_option maxRecDepth 200000 in
theorem ggX2_stands_X6_columnOf : GoodIn wsX2_stands wsX6_columnOf := goodIn_r _ [26] rfl (by decide +kernel)
set_option maxRecDepth 200000 in
theorem gX2_stands_X6_columnOf_n43 : GoodIn wsX2_stands (wsX6_columnOf) := ggX2_stands_X6_columnOf
theorem dX2_stands_0 : decode cX2_stands 0 = .ok (.aload_n 0, 1) := by decide +kernel
theorem dX2_stands_1 : decode cX2_stands 1 = .ok (.iload_n 1, 1) := by decide +kernel
theorem dX2_stands_2 : decode cX2_stands 2 = .ok (.iload_n 2, 1) := by decide +kernel
theorem dX2_stands_3 : decode cX2_stands 3 = .ok (.invokevirtual 40, 3) := by decide +kernel
theorem dX2_stands_6 : decode cX2_stands 6 = .ok (.istore_n 3, 1) := by decide +kernel
theorem dX2_stands_7 : decode cX2_stands 7 = .ok (.aload_n 0, 1) := by decide +kernel
theorem dX2_stands_8 : decode cX2_stands 8 = .ok (.iload_n 1, 1) := by decide +kernel
theorem dX2_stands_9 : decode cX2_stands 9 = .ok (.aload_n 0, 1) := by decide +kernel
theorem dX2_stands_10 : decode cX2_stands 10 = .ok (.iload_n 1, 1) := by decide +kernel
theorem dX2_stands_11 : decode cX2_stands 11 = .ok (.iload_n 2, 1) := by decide +kernel
theorem dX2_stands_12 : decode cX2_stands 12 = .ok (.invokestatic 32, 3) := by decide +kernel
theorem dX2_stands_15 : decode cX2_stands 15 = .ok (.invokevirtual 40, 3) := by decide +kernel
theorem dX2_stands_18 : decode cX2_stands 18 = .ok (.istore 4, 2) := by decide +kernel
theorem dX2_stands_20 : decode cX2_stands 20 = .ok (.iload 4, 2) := by decide +kernel
theorem dX2_stands_22 : decode cX2_stands 22 = .ok (.invokestatic 46, 3) := by decide +kernel
theorem dX2_stands_25 : decode cX2_stands 25 = .ok (.iload_n 3, 1) := by decide +kernel
theorem dX2_stands_26 : decode cX2_stands 26 = .ok (.invokestatic 46, 3) := by decide +kernel
theorem dX2_stands_29 : decode cX2_stands 29 = .ok (.isub, 1) := by decide +kernel
theorem dX2_stands_30 : decode cX2_stands 30 = .ok (.invokestatic 49, 3) := by decide +kernel
theorem dX2_stands_33 : decode cX2_stands 33 = .ok (.istore 5, 2) := by decide +kernel
theorem dX2_stands_35 : decode cX2_stands 35 = .ok (.iload 5, 2) := by decide +kernel
theorem dX2_stands_37 : decode cX2_stands 37 = .ok (.iload 4, 2) := by decide +kernel
theorem dX2_stands_39 : decode cX2_stands 39 = .ok (.invokestatic 43, 3) := by decide +kernel
theorem dX2_stands_42 : decode cX2_stands 42 = .ok (.iload_n 3, 1) := by decide +kernel
theorem dX2_stands_43 : decode cX2_stands 43 = .ok (.invokestatic 43, 3) := by decide +kernel
theorem dX2_stands_46 : decode cX2_stands 46 = .ok (.isub, 1) := by decide +kernel
theorem dX2_stands_47 : decode cX2_stands 47 = .ok (.invokestatic 49, 3) := by decide +kernel
theorem dX2_stands_50 : decode cX2_stands 50 = .ok (.if_icmp .le 7, 3) := by decide +kernel
theorem dX2_stands_53 : decode cX2_stands 53 = .ok (.iconst 1, 1) := by decide +kernel
theorem dX2_stands_54 : decode cX2_stands 54 = .ok (.goto 4, 3) := by decide +kernel
theorem dX2_stands_57 : decode cX2_stands 57 = .ok (.iconst 0, 1) := by decide +kernel
theorem dX2_stands_58 : decode cX2_stands 58 = .ok (.ireturn, 1) := by decide +kernel
set_option maxRecDepth 200000 in
theorem ggX2_reasonAgainst_X2_reasonOfShape : GoodIn wsX2_reasonAgainst wsX2_reasonOfShape := goodIn_r _ [4, 5, 6, 3, 7, 8, 9, 10, 11, 12, 13, 14, 15, 16, 17, 18, 19, 20, 21, 22, 23, 24, 25, 26, 27, 28, 29, 30, 31, 32, 33, 34, 35, 36, 37, 38, 39, 40, 41, 42, 43, 44, 45, 46, 47, 48, 49, 50, 51, 52, 53, 54, 55, 56, 57, 58, 59, 60, 61, 62, 63, 64, 94, 95, 96, 97, 98, 99] rfl (by decide +kernel)
set_option maxRecDepth 200000 in
theorem gX2_reasonAgainst_X2_reasonOfShape : GoodIn wsX2_reasonAgainst (va_wsS RX2 54 yX2_reasonOfShape wsX2_reasonOfShape) := goodIn_app (goodIn_of _ (by decide +kernel)) ggX2_reasonAgainst_X2_reasonOfShape
set_option maxRecDepth 200000 in
theorem ggX2_reasonAgainst_X2_distanceToOthers : GoodIn wsX2_reasonAgainst wsX2_distanceToOthers := goodIn_r _ [67, 68, 44, 41, 45, 69, 70, 71, 11, 72, 13, 73, 74, 75, 76, 77, 78, 79, 3, 80, 32, 33, 34, 24, 25, 26, 27, 28, 56, 57, 58, 59, 14, 19, 81, 61, 82, 83, 40, 42, 84, 85, 86, 87, 63, 64, 88, 60, 62, 94, 95, 96, 97, 98, 99] rfl (by decide +kernel)
set_option maxRecDepth 200000 in
theorem gX2_reasonAgainst_X2_distanceToOthers : GoodIn wsX2_reasonAgainst (va_wsS RX2 57 yX2_distanceToOthers wsX2_distanceToOthers) := goodIn_app (goodIn_of _ (by decide +kernel)) ggX2_reasonAgainst_X2_distanceToOthers
set_option maxRecDepth 200000 in
theorem ggX2_reasonAgainst_X4_gapWidth : GoodIn wsX2_reasonAgainst wsX4_gapWidth := goodIn_r _ [92, 93, 94, 95, 96, 97, 98, 99] rfl (by decide +kernel)
set_option maxRecDepth 200000 in
theorem gX2_reasonAgainst_X4_gapWidth : GoodIn wsX2_reasonAgainst (wsV RX2 60 RX4 yX4_gapWidth wsX4_gapWidth) := goodIn_app (goodIn_of _ (by decide +kernel)) ggX2_reasonAgainst_X4_gapWidth
theorem dX2_reasonAgainst_0 : decode cX2_reasonAgainst 0 = .ok (.aload_n 0, 1) := by decide +kernel
theorem dX2_reasonAgainst_1 : decode cX2_reasonAgainst 1 = .ok (.iload_n 1, 1) := by decide +kernel
theorem dX2_reasonAgainst_2 : decode cX2_reasonAgainst 2 = .ok (.iload_n 2, 1) := by decide +kernel
theorem dX2_reasonAgainst_3 : decode cX2_reasonAgainst 3 = .ok (.invokestatic 54, 3) := by decide +kernel
theorem dX2_reasonAgainst_6 : decode cX2_reasonAgainst 6 = .ok (.istore_n 3, 1) := by decide +kernel
theorem dX2_reasonAgainst_7 : decode cX2_reasonAgainst 7 = .ok (.iload_n 3, 1) := by decide +kernel
theorem dX2_reasonAgainst_8 : decode cX2_reasonAgainst 8 = .ok (.ifCond .eq 5, 3) := by decide +kernel
theorem dX2_reasonAgainst_11 : decode cX2_reasonAgainst 11 = .ok (.iload_n 3, 1) := by decide +kernel
theorem dX2_reasonAgainst_12 : decode cX2_reasonAgainst 12 = .ok (.ireturn, 1) := by decide +kernel
theorem dX2_reasonAgainst_13 : decode cX2_reasonAgainst 13 = .ok (.aload_n 0, 1) := by decide +kernel
theorem dX2_reasonAgainst_14 : decode cX2_reasonAgainst 14 = .ok (.iload_n 1, 1) := by decide +kernel
theorem dX2_reasonAgainst_15 : decode cX2_reasonAgainst 15 = .ok (.iload_n 2, 1) := by decide +kernel
theorem dX2_reasonAgainst_16 : decode cX2_reasonAgainst 16 = .ok (.invokestatic 57, 3) := by decide +kernel
theorem dX2_reasonAgainst_19 : decode cX2_reasonAgainst 19 = .ok (.aload_n 0, 1) := by decide +kernel
theorem dX2_reasonAgainst_20 : decode cX2_reasonAgainst 20 = .ok (.invokevirtual 60, 3) := by decide +kernel
theorem dX2_reasonAgainst_23 : decode cX2_reasonAgainst 23 = .ok (.if_icmp .ge 7, 3) := by decide +kernel
theorem dX2_reasonAgainst_26 : decode cX2_reasonAgainst 26 = .ok (.iconst 4, 1) := by decide +kernel
theorem dX2_reasonAgainst_27 : decode cX2_reasonAgainst 27 = .ok (.goto 4, 3) := by decide +kernel
theorem dX2_reasonAgainst_30 : decode cX2_reasonAgainst 30 = .ok (.iconst 0, 1) := by decide +kernel
theorem dX2_reasonAgainst_31 : decode cX2_reasonAgainst 31 = .ok (.ireturn, 1) := by decide +kernel
set_option maxRecDepth 200000 in
theorem ggX2_reasonOfShape_X2_isPlace : GoodIn wsX2_reasonOfShape wsX2_isPlace := goodIn_r _ [4, 5, 6, 7, 8, 9, 10, 11, 12, 13, 14, 15, 16, 17, 18, 19, 20, 21, 22, 23, 24, 25, 62, 63, 64, 65, 66, 67] rfl (by decide +kernel)
set_option maxRecDepth 200000 in
theorem gX2_reasonOfShape_X2_isPlace : GoodIn wsX2_reasonOfShape (va_wsS RX2 26 yX2_isPlace wsX2_isPlace) := goodIn_app (goodIn_of _ (by decide +kernel)) ggX2_reasonOfShape_X2_isPlace
set_option maxRecDepth 200000 in
theorem ggX2_reasonOfShape_X2_bendOfPlace : GoodIn wsX2_reasonOfShape wsX2_bendOfPlace := goodIn_r _ [28, 1, 2, 3, 4, 5, 6, 7, 8, 9, 10, 11, 12, 13, 14, 15, 16, 17, 18, 19, 20, 21, 22, 23, 24, 25, 29, 30, 31, 32, 33, 34, 35, 36, 37, 38, 39, 40, 41, 42, 43, 44, 45, 46, 47, 48, 62, 63, 64, 65, 66, 67] rfl (by decide +kernel)
set_option maxRecDepth 200000 in
theorem gX2_reasonOfShape_X2_bendOfPlace : GoodIn wsX2_reasonOfShape (va_wsS RX2 64 yX2_bendOfPlace wsX2_bendOfPlace) := goodIn_app (goodIn_of _ (by decide +kernel)) ggX2_reasonOfShape_X2_bendOfPlace
set_option maxRecDepth 200000 in
theorem ggX2_reasonOfShape_X2_stands : GoodIn wsX2_reasonOfShape wsX2_stands := goodIn_r _ [51, 52, 37, 38, 39, 53, 54, 55, 8, 56, 10, 11, 16, 29, 30, 3, 31, 21, 22, 23, 24, 25, 57, 58, 59, 60, 61, 62, 63, 64, 65, 66, 67] rfl (by decide +kernel)
set_option maxRecDepth 200000 in
theorem gX2_reasonOfShape_X2_stands : GoodIn wsX2_reasonOfShape (va_wsS RX2 67 yX2_stands wsX2_stands) := goodIn_app (goodIn_of _ (by decide +kernel)) ggX2_reasonOfShape_X2_stands
theorem dX2_reasonOfShape_0 : decode cX2_reasonOfShape 0 = .ok (.aload_n 0, 1) := by decide +kernel
theorem dX2_reasonOfShape_1 : decode cX2_reasonOfShape 1 = .ok (.iload_n 1, 1) := by decide +kernel
theorem dX2_reasonOfShape_2 : decode cX2_reasonOfShape 2 = .ok (.iload_n 2, 1) := by decide +kernel
theorem dX2_reasonOfShape_3 : decode cX2_reasonOfShape 3 = .ok (.invokestatic 26, 3) := by decide +kernel
theorem dX2_reasonOfShape_6 : decode cX2_reasonOfShape 6 = .ok (.ifCond .ne 5, 3) := by decide +kernel
theorem dX2_reasonOfShape_9 : decode cX2_reasonOfShape 9 = .ok (.iconst 1, 1) := by decide +kernel
theorem dX2_reasonOfShape_10 : decode cX2_reasonOfShape 10 = .ok (.ireturn, 1) := by decide +kernel
theorem dX2_reasonOfShape_11 : decode cX2_reasonOfShape 11 = .ok (.aload_n 0, 1) := by decide +kernel
theorem dX2_reasonOfShape_12 : decode cX2_reasonOfShape 12 = .ok (.iload_n 1, 1) := by decide +kernel
theorem dX2_reasonOfShape_13 : decode cX2_reasonOfShape 13 = .ok (.iload_n 2, 1) := by decide +kernel
theorem dX2_reasonOfShape_14 : decode cX2_reasonOfShape 14 = .ok (.invokestatic 64, 3) := by decide +kernel
theorem dX2_reasonOfShape_17 : decode cX2_reasonOfShape 17 = .ok (.iconst 1, 1) := by decide +kernel
theorem dX2_reasonOfShape_18 : decode cX2_reasonOfShape 18 = .ok (.if_icmp .le 5, 3) := by decide +kernel
theorem dX2_reasonOfShape_21 : decode cX2_reasonOfShape 21 = .ok (.iconst 2, 1) := by decide +kernel
theorem dX2_reasonOfShape_22 : decode cX2_reasonOfShape 22 = .ok (.ireturn, 1) := by decide +kernel
theorem dX2_reasonOfShape_23 : decode cX2_reasonOfShape 23 = .ok (.aload_n 0, 1) := by decide +kernel
theorem dX2_reasonOfShape_24 : decode cX2_reasonOfShape 24 = .ok (.iload_n 1, 1) := by decide +kernel
theorem dX2_reasonOfShape_25 : decode cX2_reasonOfShape 25 = .ok (.iload_n 2, 1) := by decide +kernel
theorem dX2_reasonOfShape_26 : decode cX2_reasonOfShape 26 = .ok (.invokestatic 67, 3) := by decide +kernel
theorem dX2_reasonOfShape_29 : decode cX2_reasonOfShape 29 = .ok (.ifCond .eq 7, 3) := by decide +kernel
theorem dX2_reasonOfShape_32 : decode cX2_reasonOfShape 32 = .ok (.iconst 3, 1) := by decide +kernel
theorem dX2_reasonOfShape_33 : decode cX2_reasonOfShape 33 = .ok (.goto 4, 3) := by decide +kernel
theorem dX2_reasonOfShape_36 : decode cX2_reasonOfShape 36 = .ok (.iconst 0, 1) := by decide +kernel
theorem dX2_reasonOfShape_37 : decode cX2_reasonOfShape 37 = .ok (.ireturn, 1) := by decide +kernel
set_option maxRecDepth 200000 in
theorem ggX2_distanceToOthers_X4_lineCount : GoodIn wsX2_distanceToOthers wsX4_lineCount := goodIn_r _ [9, 10, 49, 50, 51, 52, 53, 54] rfl (by decide +kernel)
set_option maxRecDepth 200000 in
theorem gX2_distanceToOthers_X4_lineCount : GoodIn wsX2_distanceToOthers (wsV RX2 70 RX4 yX4_lineCount wsX4_lineCount) := goodIn_app (goodIn_of _ (by decide +kernel)) ggX2_distanceToOthers_X4_lineCount
set_option maxRecDepth 200000 in
theorem ggX2_distanceToOthers_X4_labelIn : GoodIn wsX2_distanceToOthers wsX4_labelIn := goodIn_r _ [14, 10, 15, 49, 50, 51, 52, 53, 54] rfl (by decide +kernel)
set_option maxRecDepth 200000 in
theorem gX2_distanceToOthers_X4_labelIn : GoodIn wsX2_distanceToOthers (wsV RX2 73 RX4 yX4_labelIn wsX4_labelIn) := goodIn_app (goodIn_of _ (by decide +kernel)) ggX2_distanceToOthers_X4_labelIn
set_option maxRecDepth 200000 in
theorem ggX2_distanceToOthers_X2_distanceToLabel : GoodIn wsX2_distanceToOthers wsX2_distanceToLabel := goodIn_r _ [19, 1, 2, 3, 4, 11, 12, 13, 8, 14, 10, 15, 20, 21, 18, 22, 23, 24, 25, 26, 27, 28, 29, 30, 31, 32, 33, 34, 35, 36, 37, 38, 39, 40, 41, 42, 43, 44, 45, 46, 47, 48, 49, 50, 51, 52, 53, 54] rfl (by decide +kernel)
set_option maxRecDepth 200000 in
theorem gX2_distanceToOthers_X2_distanceToLabel : GoodIn wsX2_distanceToOthers (va_wsS RX2 76 yX2_distanceToLabel wsX2_distanceToLabel) := goodIn_app (goodIn_of _ (by decide +kernel)) ggX2_distanceToOthers_X2_distanceToLabel
theorem dX2_distanceToOthers_0 : decode cX2_distanceToOthers 0 = .ok (.bipush 99, 2) := by decide +kernel
theorem dX2_distanceToOthers_2 : decode cX2_distanceToOthers 2 = .ok (.istore_n 3, 1) := by decide +kernel
theorem dX2_distanceToOthers_3 : decode cX2_distanceToOthers 3 = .ok (.iconst 0, 1) := by decide +kernel
theorem dX2_distanceToOthers_4 : decode cX2_distanceToOthers 4 = .ok (.istore 4, 2) := by decide +kernel
theorem dX2_distanceToOthers_6 : decode cX2_distanceToOthers 6 = .ok (.iload 4, 2) := by decide +kernel
theorem dX2_distanceToOthers_8 : decode cX2_distanceToOthers 8 = .ok (.aload_n 0, 1) := by decide +kernel
theorem dX2_distanceToOthers_9 : decode cX2_distanceToOthers 9 = .ok (.invokevirtual 70, 3) := by decide +kernel
theorem dX2_distanceToOthers_12 : decode cX2_distanceToOthers 12 = .ok (.if_icmp .ge 38, 3) := by decide +kernel
theorem dX2_distanceToOthers_15 : decode cX2_distanceToOthers 15 = .ok (.iload 4, 2) := by decide +kernel
theorem dX2_distanceToOthers_17 : decode cX2_distanceToOthers 17 = .ok (.iload_n 1, 1) := by decide +kernel
theorem dX2_distanceToOthers_18 : decode cX2_distanceToOthers 18 = .ok (.if_icmp .eq 26, 3) := by decide +kernel
theorem dX2_distanceToOthers_21 : decode cX2_distanceToOthers 21 = .ok (.aload_n 0, 1) := by decide +kernel
theorem dX2_distanceToOthers_22 : decode cX2_distanceToOthers 22 = .ok (.iload 4, 2) := by decide +kernel
theorem dX2_distanceToOthers_24 : decode cX2_distanceToOthers 24 = .ok (.invokevirtual 73, 3) := by decide +kernel
theorem dX2_distanceToOthers_27 : decode cX2_distanceToOthers 27 = .ok (.iconst (-1), 1) := by decide +kernel
theorem dX2_distanceToOthers_28 : decode cX2_distanceToOthers 28 = .ok (.if_icmp .eq 16, 3) := by decide +kernel
theorem dX2_distanceToOthers_31 : decode cX2_distanceToOthers 31 = .ok (.iload_n 3, 1) := by decide +kernel
theorem dX2_distanceToOthers_32 : decode cX2_distanceToOthers 32 = .ok (.aload_n 0, 1) := by decide +kernel
theorem dX2_distanceToOthers_33 : decode cX2_distanceToOthers 33 = .ok (.iload_n 1, 1) := by decide +kernel
theorem dX2_distanceToOthers_34 : decode cX2_distanceToOthers 34 = .ok (.iload_n 2, 1) := by decide +kernel
theorem dX2_distanceToOthers_35 : decode cX2_distanceToOthers 35 = .ok (.iload 4, 2) := by decide +kernel
theorem dX2_distanceToOthers_37 : decode cX2_distanceToOthers 37 = .ok (.invokestatic 76, 3) := by decide +kernel
theorem dX2_distanceToOthers_40 : decode cX2_distanceToOthers 40 = .ok (.invokestatic 80, 3) := by decide +kernel
theorem dX2_distanceToOthers_43 : decode cX2_distanceToOthers 43 = .ok (.istore_n 3, 1) := by decide +kernel
theorem dX2_distanceToOthers_44 : decode cX2_distanceToOthers 44 = .ok (.iinc 4 1, 3) := by decide +kernel
theorem dX2_distanceToOthers_47 : decode cX2_distanceToOthers 47 = .ok (.goto (-41), 3) := by decide +kernel
theorem dX2_distanceToOthers_50 : decode cX2_distanceToOthers 50 = .ok (.iload_n 3, 1) := by decide +kernel
theorem dX2_distanceToOthers_51 : decode cX2_distanceToOthers 51 = .ok (.ireturn, 1) := by decide +kernel
set_option maxRecDepth 200000 in
theorem ggX2_distanceToLabel_X4_labelIn : GoodIn wsX2_distanceToLabel wsX4_labelIn := goodIn_r _ [9, 10, 11, 42, 43, 44, 45, 46, 47] rfl (by decide +kernel)
set_option maxRecDepth 200000 in
theorem gX2_distanceToLabel_X4_labelIn : GoodIn wsX2_distanceToLabel (wsV RX2 73 RX4 yX4_labelIn wsX4_labelIn) := goodIn_app (goodIn_of _ (by decide +kernel)) ggX2_distanceToLabel_X4_labelIn
set_option maxRecDepth 200000 in
theorem ggX2_distanceToLabel_X2_lastNumber : GoodIn wsX2_distanceToLabel wsX2_lastNumber := goodIn_r _ [15, 16, 17, 18, 8, 19, 10, 20, 42, 43, 44, 45, 46, 47] rfl (by decide +kernel)
set_option maxRecDepth 200000 in
theorem gX2_distanceToLabel_X2_lastNumber : GoodIn wsX2_distanceToLabel (va_wsS RX2 32 yX2_lastNumber wsX2_lastNumber) := goodIn_app (goodIn_of _ (by decide +kernel)) ggX2_distanceToLabel_X2_lastNumber
set_option maxRecDepth 200000 in
theorem ggX2_distanceToLabel_X4_pointAt : GoodIn wsX2_distanceToLabel wsX4_pointAt := goodIn_r _ [24, 10, 25, 26, 42, 43, 44, 45, 46, 47] rfl (by decide +kernel)
set_option maxRecDepth 200000 in
theorem gX2_distanceToLabel_X4_pointAt : GoodIn wsX2_distanceToLabel (wsV RX2 40 RX4 yX4_pointAt wsX4_pointAt) := goodIn_app (goodIn_of _ (by decide +kernel)) ggX2_distanceToLabel_X4_pointAt
set_option maxRecDepth 200000 in
theorem ggX2_distanceToLabel_X6_distance : GoodIn wsX2_distanceToLabel wsX6_distance := goodIn_r _ [29, 30, 31, 3, 32, 33, 34, 35, 36, 37, 28, 38, 39, 40, 41] rfl (by decide +kernel)
set_option maxRecDepth 200000 in
theorem gX2_distanceToLabel_X6_distance_n83 : GoodIn wsX2_distanceToLabel (wsX6_distance) := ggX2_distanceToLabel_X6_distance
theorem dX2_distanceToLabel_0 : decode cX2_distanceToLabel 0 = .ok (.aload_n 0, 1) := by decide +kernel
theorem dX2_distanceToLabel_1 : decode cX2_distanceToLabel 1 = .ok (.iload_n 3, 1) := by decide +kernel
theorem dX2_distanceToLabel_2 : decode cX2_distanceToLabel 2 = .ok (.invokevirtual 73, 3) := by decide +kernel
theorem dX2_distanceToLabel_5 : decode cX2_distanceToLabel 5 = .ok (.istore 4, 2) := by decide +kernel
theorem dX2_distanceToLabel_7 : decode cX2_distanceToLabel 7 = .ok (.aload_n 0, 1) := by decide +kernel
theorem dX2_distanceToLabel_8 : decode cX2_distanceToLabel 8 = .ok (.iload_n 1, 1) := by decide +kernel
theorem dX2_distanceToLabel_9 : decode cX2_distanceToLabel 9 = .ok (.iload_n 2, 1) := by decide +kernel
theorem dX2_distanceToLabel_10 : decode cX2_distanceToLabel 10 = .ok (.invokestatic 32, 3) := by decide +kernel
theorem dX2_distanceToLabel_13 : decode cX2_distanceToLabel 13 = .ok (.istore 5, 2) := by decide +kernel
theorem dX2_distanceToLabel_15 : decode cX2_distanceToLabel 15 = .ok (.aload_n 0, 1) := by decide +kernel
theorem dX2_distanceToLabel_16 : decode cX2_distanceToLabel 16 = .ok (.iload_n 3, 1) := by decide +kernel
theorem dX2_distanceToLabel_17 : decode cX2_distanceToLabel 17 = .ok (.iload 4, 2) := by decide +kernel
theorem dX2_distanceToLabel_19 : decode cX2_distanceToLabel 19 = .ok (.invokestatic 32, 3) := by decide +kernel
theorem dX2_distanceToLabel_22 : decode cX2_distanceToLabel 22 = .ok (.istore 6, 2) := by decide +kernel
theorem dX2_distanceToLabel_24 : decode cX2_distanceToLabel 24 = .ok (.bipush 99, 2) := by decide +kernel
theorem dX2_distanceToLabel_26 : decode cX2_distanceToLabel 26 = .ok (.istore 7, 2) := by decide +kernel
theorem dX2_distanceToLabel_28 : decode cX2_distanceToLabel 28 = .ok (.iload_n 2, 1) := by decide +kernel
theorem dX2_distanceToLabel_29 : decode cX2_distanceToLabel 29 = .ok (.istore 8, 2) := by decide +kernel
theorem dX2_distanceToLabel_31 : decode cX2_distanceToLabel 31 = .ok (.iload 8, 2) := by decide +kernel
theorem dX2_distanceToLabel_33 : decode cX2_distanceToLabel 33 = .ok (.iload 5, 2) := by decide +kernel
theorem dX2_distanceToLabel_35 : decode cX2_distanceToLabel 35 = .ok (.if_icmp .gt 54, 3) := by decide +kernel
theorem dX2_distanceToLabel_38 : decode cX2_distanceToLabel 38 = .ok (.aload_n 0, 1) := by decide +kernel
theorem dX2_distanceToLabel_39 : decode cX2_distanceToLabel 39 = .ok (.iload_n 1, 1) := by decide +kernel
theorem dX2_distanceToLabel_40 : decode cX2_distanceToLabel 40 = .ok (.iload 8, 2) := by decide +kernel
theorem dX2_distanceToLabel_42 : decode cX2_distanceToLabel 42 = .ok (.invokevirtual 40, 3) := by decide +kernel
theorem dX2_distanceToLabel_45 : decode cX2_distanceToLabel 45 = .ok (.istore 9, 2) := by decide +kernel
theorem dX2_distanceToLabel_47 : decode cX2_distanceToLabel 47 = .ok (.iload 4, 2) := by decide +kernel
theorem dX2_distanceToLabel_49 : decode cX2_distanceToLabel 49 = .ok (.istore 10, 2) := by decide +kernel
theorem dX2_distanceToLabel_51 : decode cX2_distanceToLabel 51 = .ok (.iload 10, 2) := by decide +kernel
theorem dX2_distanceToLabel_53 : decode cX2_distanceToLabel 53 = .ok (.iload 6, 2) := by decide +kernel
theorem dX2_distanceToLabel_55 : decode cX2_distanceToLabel 55 = .ok (.if_icmp .gt 28, 3) := by decide +kernel
theorem dX2_distanceToLabel_58 : decode cX2_distanceToLabel 58 = .ok (.iload 7, 2) := by decide +kernel
theorem dX2_distanceToLabel_60 : decode cX2_distanceToLabel 60 = .ok (.iload 9, 2) := by decide +kernel
theorem dX2_distanceToLabel_62 : decode cX2_distanceToLabel 62 = .ok (.aload_n 0, 1) := by decide +kernel
theorem dX2_distanceToLabel_63 : decode cX2_distanceToLabel 63 = .ok (.iload_n 3, 1) := by decide +kernel
theorem dX2_distanceToLabel_64 : decode cX2_distanceToLabel 64 = .ok (.iload 10, 2) := by decide +kernel
theorem dX2_distanceToLabel_66 : decode cX2_distanceToLabel 66 = .ok (.invokevirtual 40, 3) := by decide +kernel
theorem dX2_distanceToLabel_69 : decode cX2_distanceToLabel 69 = .ok (.invokestatic 83, 3) := by decide +kernel
theorem dX2_distanceToLabel_72 : decode cX2_distanceToLabel 72 = .ok (.invokestatic 80, 3) := by decide +kernel
theorem dX2_distanceToLabel_75 : decode cX2_distanceToLabel 75 = .ok (.istore 7, 2) := by decide +kernel
theorem dX2_distanceToLabel_77 : decode cX2_distanceToLabel 77 = .ok (.iinc 10 1, 3) := by decide +kernel
theorem dX2_distanceToLabel_80 : decode cX2_distanceToLabel 80 = .ok (.goto (-29), 3) := by decide +kernel
theorem dX2_distanceToLabel_83 : decode cX2_distanceToLabel 83 = .ok (.iinc 8 1, 3) := by decide +kernel
theorem dX2_distanceToLabel_86 : decode cX2_distanceToLabel 86 = .ok (.goto (-55), 3) := by decide +kernel
theorem dX2_distanceToLabel_89 : decode cX2_distanceToLabel 89 = .ok (.iload 7, 2) := by decide +kernel
theorem dX2_distanceToLabel_91 : decode cX2_distanceToLabel 91 = .ok (.ireturn, 1) := by decide +kernel
set_option maxRecDepth 200000 in
theorem ggX2_countPlaces_X4_stepCount : GoodIn wsX2_countPlaces wsX4_stepCount := goodIn_r _ [5, 6, 7, 97, 98, 99, 100, 101, 102] rfl (by decide +kernel)
set_option maxRecDepth 200000 in
theorem gX2_countPlaces_X4_stepCount : GoodIn wsX2_countPlaces (wsV RX2 15 RX4 yX4_stepCount wsX4_stepCount) := goodIn_app (goodIn_of _ (by decide +kernel)) ggX2_countPlaces_X4_stepCount
set_option maxRecDepth 200000 in
theorem ggX2_countPlaces_X2_reasonAgainst : GoodIn wsX2_countPlaces wsX2_reasonAgainst := goodIn_r _ [11, 12, 13, 10, 14, 15, 16, 17, 1, 2, 3, 4, 5, 6, 7, 18, 19, 20, 21, 22, 23, 24, 25, 26, 27, 28, 29, 30, 31, 32, 33, 34, 35, 36, 37, 38, 39, 40, 41, 42, 43, 44, 45, 46, 47, 48, 49, 50, 51, 52, 53, 54, 55, 56, 57, 58, 59, 60, 61, 62, 63, 64, 65, 66, 67, 68, 69, 70, 71, 72, 73, 74, 75, 76, 77, 78, 79, 80, 81, 82, 83, 84, 85, 86, 87, 88, 89, 90, 91, 92, 93, 94, 95, 96, 97, 98, 99, 100, 101, 102] rfl (by decide +kernel)
set_option maxRecDepth 200000 in
theorem gX2_countPlaces_X2_reasonAgainst : GoodIn wsX2_countPlaces (va_wsS RX2 86 yX2_reasonAgainst wsX2_reasonAgainst) := goodIn_app (goodIn_of _ (by decide +kernel)) ggX2_countPlaces_X2_reasonAgainst
theorem dX2_countPlaces_0 : decode cX2_countPlaces 0 = .ok (.aload_n 0, 1) := by decide +kernel
theorem dX2_countPlaces_1 : decode cX2_countPlaces 1 = .ok (.iload_n 1, 1) := by decide +kernel
theorem dX2_countPlaces_2 : decode cX2_countPlaces 2 = .ok (.invokevirtual 15, 3) := by decide +kernel
theorem dX2_countPlaces_5 : decode cX2_countPlaces 5 = .ok (.istore_n 2, 1) := by decide +kernel
theorem dX2_countPlaces_6 : decode cX2_countPlaces 6 = .ok (.iconst 0, 1) := by decide +kernel
theorem dX2_countPlaces_7 : decode cX2_countPlaces 7 = .ok (.istore_n 3, 1) := by decide +kernel
theorem dX2_countPlaces_8 : decode cX2_countPlaces 8 = .ok (.iconst 0, 1) := by decide +kernel
theorem dX2_countPlaces_9 : decode cX2_countPlaces 9 = .ok (.istore 4, 2) := by decide +kernel
theorem dX2_countPlaces_11 : decode cX2_countPlaces 11 = .ok (.iload 4, 2) := by decide +kernel
theorem dX2_countPlaces_13 : decode cX2_countPlaces 13 = .ok (.iload_n 2, 1) := by decide +kernel
theorem dX2_countPlaces_14 : decode cX2_countPlaces 14 = .ok (.if_icmp .gt 22, 3) := by decide +kernel
theorem dX2_countPlaces_17 : decode cX2_countPlaces 17 = .ok (.aload_n 0, 1) := by decide +kernel
theorem dX2_countPlaces_18 : decode cX2_countPlaces 18 = .ok (.iload_n 1, 1) := by decide +kernel
theorem dX2_countPlaces_19 : decode cX2_countPlaces 19 = .ok (.iload 4, 2) := by decide +kernel
theorem dX2_countPlaces_21 : decode cX2_countPlaces 21 = .ok (.invokestatic 86, 3) := by decide +kernel
theorem dX2_countPlaces_24 : decode cX2_countPlaces 24 = .ok (.ifCond .ne 6, 3) := by decide +kernel
theorem dX2_countPlaces_27 : decode cX2_countPlaces 27 = .ok (.iinc 3 1, 3) := by decide +kernel
theorem dX2_countPlaces_30 : decode cX2_countPlaces 30 = .ok (.iinc 4 1, 3) := by decide +kernel
theorem dX2_countPlaces_33 : decode cX2_countPlaces 33 = .ok (.goto (-22), 3) := by decide +kernel
theorem dX2_countPlaces_36 : decode cX2_countPlaces 36 = .ok (.iload_n 3, 1) := by decide +kernel
theorem dX2_countPlaces_37 : decode cX2_countPlaces 37 = .ok (.ireturn, 1) := by decide +kernel
set_option maxRecDepth 200000 in
theorem ggX2_best_X4_stepCount : GoodIn wsX2_best wsX4_stepCount := goodIn_r _ [5, 6, 7, 94, 95, 96, 97, 98, 99] rfl (by decide +kernel)
set_option maxRecDepth 200000 in
theorem gX2_best_X4_stepCount : GoodIn wsX2_best (wsV RX2 15 RX4 yX4_stepCount wsX4_stepCount) := goodIn_app (goodIn_of _ (by decide +kernel)) ggX2_best_X4_stepCount
set_option maxRecDepth 200000 in
theorem ggX2_best_X2_reasonOfShape : GoodIn wsX2_best wsX2_reasonOfShape := goodIn_r _ [11, 12, 13, 10, 14, 1, 2, 3, 4, 5, 6, 7, 15, 16, 17, 18, 19, 20, 21, 22, 23, 24, 25, 26, 27, 28, 29, 30, 31, 32, 33, 34, 35, 36, 37, 38, 39, 40, 41, 42, 43, 44, 45, 46, 47, 48, 49, 50, 51, 52, 53, 54, 55, 56, 57, 58, 59, 60, 61, 62, 63, 64, 94, 95, 96, 97, 98, 99] rfl (by decide +kernel)
set_option maxRecDepth 200000 in
theorem gX2_best_X2_reasonOfShape : GoodIn wsX2_best (va_wsS RX2 54 yX2_reasonOfShape wsX2_reasonOfShape) := goodIn_app (goodIn_of _ (by decide +kernel)) ggX2_best_X2_reasonOfShape
set_option maxRecDepth 200000 in
theorem ggX2_best_X2_bendOfPlace : GoodIn wsX2_best wsX2_bendOfPlace := goodIn_r _ [31, 12, 13, 10, 14, 1, 2, 3, 4, 5, 6, 7, 15, 16, 17, 18, 19, 20, 21, 22, 23, 24, 25, 26, 27, 28, 32, 33, 34, 35, 36, 37, 38, 39, 40, 41, 42, 43, 44, 45, 46, 47, 48, 49, 50, 51, 94, 95, 96, 97, 98, 99] rfl (by decide +kernel)
set_option maxRecDepth 200000 in
theorem gX2_best_X2_bendOfPlace : GoodIn wsX2_best (va_wsS RX2 64 yX2_bendOfPlace wsX2_bendOfPlace) := goodIn_app (goodIn_of _ (by decide +kernel)) ggX2_best_X2_bendOfPlace
set_option maxRecDepth 200000 in
theorem ggX2_best_X2_distanceToOthers : GoodIn wsX2_best wsX2_distanceToOthers := goodIn_r _ [67, 68, 44, 41, 45, 69, 70, 71, 4, 72, 6, 73, 74, 75, 76, 77, 78, 79, 10, 80, 32, 33, 34, 24, 25, 26, 27, 28, 56, 57, 58, 59, 7, 19, 81, 61, 82, 83, 40, 42, 84, 85, 86, 87, 63, 64, 88, 60, 62, 94, 95, 96, 97, 98, 99] rfl (by decide +kernel)
set_option maxRecDepth 200000 in
theorem gX2_best_X2_distanceToOthers : GoodIn wsX2_best (va_wsS RX2 57 yX2_distanceToOthers wsX2_distanceToOthers) := goodIn_app (goodIn_of _ (by decide +kernel)) ggX2_best_X2_distanceToOthers
set_option maxRecDepth 200000 in
theorem ggX2_best_X4_gapWidth : GoodIn wsX2_best wsX4_gapWidth := goodIn_r _ [92, 93, 94, 95, 96, 97, 98, 99] rfl (by decide +kernel)
set_option maxRecDepth 200000 in
theorem gX2_best_X4_gapWidth : GoodIn wsX2_best (wsV RX2 60 RX4 yX4_gapWidth wsX4_gapWidth) := goodIn_app (goodIn_of _ (by decide +kernel)) ggX2_best_X4_gapWidth
theorem dX2_best_0 : decode cX2_best 0 = .ok (.aload_n 0, 1) := by decide +kernel
theorem dX2_best_1 : decode cX2_best 1 = .ok (.iload_n 1, 1) := by decide +kernel
theorem dX2_best_2 : decode cX2_best 2 = .ok (.invokevirtual 15, 3) := by decide +kernel
theorem dX2_best_5 : decode cX2_best 5 = .ok (.istore_n 2, 1) := by decide +kernel
theorem dX2_best_6 : decode cX2_best 6 = .ok (.iconst (-1), 1) := by decide +kernel
theorem dX2_best_7 : decode cX2_best 7 = .ok (.istore_n 3, 1) := by decide +kernel
theorem dX2_best_8 : decode cX2_best 8 = .ok (.iconst 0, 1) := by decide +kernel
theorem dX2_best_9 : decode cX2_best 9 = .ok (.istore 4, 2) := by decide +kernel
theorem dX2_best_11 : decode cX2_best 11 = .ok (.iconst 0, 1) := by decide +kernel
theorem dX2_best_12 : decode cX2_best 12 = .ok (.istore 5, 2) := by decide +kernel
theorem dX2_best_14 : decode cX2_best 14 = .ok (.iconst 0, 1) := by decide +kernel
theorem dX2_best_15 : decode cX2_best 15 = .ok (.istore 6, 2) := by decide +kernel
theorem dX2_best_17 : decode cX2_best 17 = .ok (.iload 6, 2) := by decide +kernel
theorem dX2_best_19 : decode cX2_best 19 = .ok (.iload_n 2, 1) := by decide +kernel
theorem dX2_best_20 : decode cX2_best 20 = .ok (.if_icmp .gt 98, 3) := by decide +kernel
theorem dX2_best_23 : decode cX2_best 23 = .ok (.aload_n 0, 1) := by decide +kernel
theorem dX2_best_24 : decode cX2_best 24 = .ok (.iload_n 1, 1) := by decide +kernel
theorem dX2_best_25 : decode cX2_best 25 = .ok (.iload 6, 2) := by decide +kernel
theorem dX2_best_27 : decode cX2_best 27 = .ok (.invokestatic 54, 3) := by decide +kernel
theorem dX2_best_30 : decode cX2_best 30 = .ok (.ifCond .eq 6, 3) := by decide +kernel
theorem dX2_best_33 : decode cX2_best 33 = .ok (.goto 79, 3) := by decide +kernel
theorem dX2_best_36 : decode cX2_best 36 = .ok (.aload_n 0, 1) := by decide +kernel
theorem dX2_best_37 : decode cX2_best 37 = .ok (.iload_n 1, 1) := by decide +kernel
theorem dX2_best_38 : decode cX2_best 38 = .ok (.iload 6, 2) := by decide +kernel
theorem dX2_best_40 : decode cX2_best 40 = .ok (.invokestatic 64, 3) := by decide +kernel
theorem dX2_best_43 : decode cX2_best 43 = .ok (.istore 7, 2) := by decide +kernel
theorem dX2_best_45 : decode cX2_best 45 = .ok (.aload_n 0, 1) := by decide +kernel
theorem dX2_best_46 : decode cX2_best 46 = .ok (.iload_n 1, 1) := by decide +kernel
theorem dX2_best_47 : decode cX2_best 47 = .ok (.iload 6, 2) := by decide +kernel
theorem dX2_best_49 : decode cX2_best 49 = .ok (.invokestatic 57, 3) := by decide +kernel
theorem dX2_best_52 : decode cX2_best 52 = .ok (.istore 8, 2) := by decide +kernel
theorem dX2_best_54 : decode cX2_best 54 = .ok (.iload_n 3, 1) := by decide +kernel
theorem dX2_best_55 : decode cX2_best 55 = .ok (.iconst (-1), 1) := by decide +kernel
theorem dX2_best_56 : decode cX2_best 56 = .ok (.if_icmp .eq 24, 3) := by decide +kernel
theorem dX2_best_59 : decode cX2_best 59 = .ok (.iload 7, 2) := by decide +kernel
theorem dX2_best_61 : decode cX2_best 61 = .ok (.iload 4, 2) := by decide +kernel
theorem dX2_best_63 : decode cX2_best 63 = .ok (.if_icmp .lt 17, 3) := by decide +kernel
theorem dX2_best_66 : decode cX2_best 66 = .ok (.iload 7, 2) := by decide +kernel
theorem dX2_best_68 : decode cX2_best 68 = .ok (.iload 4, 2) := by decide +kernel
theorem dX2_best_70 : decode cX2_best 70 = .ok (.if_icmp .ne 14, 3) := by decide +kernel
theorem dX2_best_73 : decode cX2_best 73 = .ok (.iload 8, 2) := by decide +kernel
theorem dX2_best_75 : decode cX2_best 75 = .ok (.iload 5, 2) := by decide +kernel
theorem dX2_best_77 : decode cX2_best 77 = .ok (.if_icmp .le 7, 3) := by decide +kernel
theorem dX2_best_80 : decode cX2_best 80 = .ok (.iconst 1, 1) := by decide +kernel
theorem dX2_best_81 : decode cX2_best 81 = .ok (.goto 4, 3) := by decide +kernel
theorem dX2_best_84 : decode cX2_best 84 = .ok (.iconst 0, 1) := by decide +kernel
theorem dX2_best_85 : decode cX2_best 85 = .ok (.istore 9, 2) := by decide +kernel
theorem dX2_best_87 : decode cX2_best 87 = .ok (.iload 9, 2) := by decide +kernel
theorem dX2_best_89 : decode cX2_best 89 = .ok (.ifCond .eq 23, 3) := by decide +kernel
theorem dX2_best_92 : decode cX2_best 92 = .ok (.iload 8, 2) := by decide +kernel
theorem dX2_best_94 : decode cX2_best 94 = .ok (.aload_n 0, 1) := by decide +kernel
theorem dX2_best_95 : decode cX2_best 95 = .ok (.invokevirtual 60, 3) := by decide +kernel
theorem dX2_best_98 : decode cX2_best 98 = .ok (.if_icmp .lt 14, 3) := by decide +kernel
theorem dX2_best_101 : decode cX2_best 101 = .ok (.iload 6, 2) := by decide +kernel
theorem dX2_best_103 : decode cX2_best 103 = .ok (.istore_n 3, 1) := by decide +kernel
theorem dX2_best_104 : decode cX2_best 104 = .ok (.iload 7, 2) := by decide +kernel
theorem dX2_best_106 : decode cX2_best 106 = .ok (.istore 4, 2) := by decide +kernel
theorem dX2_best_108 : decode cX2_best 108 = .ok (.iload 8, 2) := by decide +kernel
theorem dX2_best_110 : decode cX2_best 110 = .ok (.istore 5, 2) := by decide +kernel
theorem dX2_best_112 : decode cX2_best 112 = .ok (.iinc 6 1, 3) := by decide +kernel
theorem dX2_best_115 : decode cX2_best 115 = .ok (.goto (-98), 3) := by decide +kernel
theorem dX2_best_118 : decode cX2_best 118 = .ok (.iload_n 3, 1) := by decide +kernel
theorem dX2_best_119 : decode cX2_best 119 = .ok (.ireturn, 1) := by decide +kernel
set_option maxRecDepth 200000 in
theorem ggX2_setAll_X4_lineCount : GoodIn wsX2_setAll wsX4_lineCount := goodIn_r _ [5, 6, 113, 114, 115, 116, 117, 118] rfl (by decide +kernel)
set_option maxRecDepth 200000 in
theorem gX2_setAll_X4_lineCount : GoodIn wsX2_setAll (wsV RX2 70 RX4 yX4_lineCount wsX4_lineCount) := goodIn_app (goodIn_of _ (by decide +kernel)) ggX2_setAll_X4_lineCount
set_option maxRecDepth 200000 in
theorem ggX2_setAll_X4_putLabel : GoodIn wsX2_setAll wsX4_putLabel := goodIn_r _ [10, 6, 11, 113, 114, 115, 116, 117, 118] rfl (by decide +kernel)
set_option maxRecDepth 200000 in
theorem gX2_setAll_X4_putLabel : GoodIn wsX2_setAll (wsV RX2 89 RX4 yX4_putLabel wsX4_putLabel) := goodIn_app (goodIn_of _ (by decide +kernel)) ggX2_setAll_X4_putLabel
set_option maxRecDepth 200000 in
theorem ggX2_setAll_X4_lineOfRank : GoodIn wsX2_setAll wsX4_lineOfRank := goodIn_r _ [15, 6, 16, 17, 18, 4, 19, 20, 21, 22, 23, 24, 113, 114, 115, 116, 117, 118] rfl (by decide +kernel)
set_option maxRecDepth 200000 in
theorem gX2_setAll_X4_lineOfRank : GoodIn wsX2_setAll (wsV RX2 93 RX4 yX4_lineOfRank wsX4_lineOfRank) := goodIn_app (goodIn_of _ (by decide +kernel)) ggX2_setAll_X4_lineOfRank
set_option maxRecDepth 200000 in
theorem ggX2_setAll_X2_best : GoodIn wsX2_setAll wsX2_best := goodIn_r _ [28, 29, 30, 31, 4, 32, 6, 33, 34, 35, 27, 36, 37, 38, 39, 40, 41, 42, 43, 44, 45, 46, 47, 48, 49, 50, 51, 52, 24, 53, 54, 55, 56, 57, 58, 59, 60, 61, 62, 63, 64, 65, 66, 67, 68, 69, 70, 71, 72, 73, 74, 75, 76, 77, 78, 79, 80, 81, 82, 83, 84, 85, 86, 87, 88, 89, 90, 91, 92, 1, 2, 3, 5, 93, 94, 95, 96, 11, 97, 98, 99, 100, 101, 102, 103, 104, 105, 106, 107, 108, 109, 110, 111, 112, 113, 114, 115, 116, 117, 118] rfl (by decide +kernel)
set_option maxRecDepth 200000 in
theorem gX2_setAll_X2_best : GoodIn wsX2_setAll (va_wsS RX2 96 yX2_best wsX2_best) := goodIn_app (goodIn_of _ (by decide +kernel)) ggX2_setAll_X2_best
theorem dX2_setAll_0 : decode cX2_setAll 0 = .ok (.aload_n 0, 1) := by decide +kernel
theorem dX2_setAll_1 : decode cX2_setAll 1 = .ok (.invokevirtual 70, 3) := by decide +kernel
theorem dX2_setAll_4 : decode cX2_setAll 4 = .ok (.istore_n 1, 1) := by decide +kernel
theorem dX2_setAll_5 : decode cX2_setAll 5 = .ok (.iconst 0, 1) := by decide +kernel
theorem dX2_setAll_6 : decode cX2_setAll 6 = .ok (.istore_n 2, 1) := by decide +kernel
theorem dX2_setAll_7 : decode cX2_setAll 7 = .ok (.iload_n 2, 1) := by decide +kernel
theorem dX2_setAll_8 : decode cX2_setAll 8 = .ok (.iload_n 1, 1) := by decide +kernel
theorem dX2_setAll_9 : decode cX2_setAll 9 = .ok (.if_icmp .ge 15, 3) := by decide +kernel
theorem dX2_setAll_12 : decode cX2_setAll 12 = .ok (.aload_n 0, 1) := by decide +kernel
theorem dX2_setAll_13 : decode cX2_setAll 13 = .ok (.iload_n 2, 1) := by decide +kernel
theorem dX2_setAll_14 : decode cX2_setAll 14 = .ok (.iconst (-1), 1) := by decide +kernel
theorem dX2_setAll_15 : decode cX2_setAll 15 = .ok (.invokevirtual 89, 3) := by decide +kernel
theorem dX2_setAll_18 : decode cX2_setAll 18 = .ok (.iinc 2 1, 3) := by decide +kernel
theorem dX2_setAll_21 : decode cX2_setAll 21 = .ok (.goto (-14), 3) := by decide +kernel
theorem dX2_setAll_24 : decode cX2_setAll 24 = .ok (.iconst 0, 1) := by decide +kernel
theorem dX2_setAll_25 : decode cX2_setAll 25 = .ok (.istore_n 2, 1) := by decide +kernel
theorem dX2_setAll_26 : decode cX2_setAll 26 = .ok (.iload_n 2, 1) := by decide +kernel
theorem dX2_setAll_27 : decode cX2_setAll 27 = .ok (.iload_n 1, 1) := by decide +kernel
theorem dX2_setAll_28 : decode cX2_setAll 28 = .ok (.if_icmp .ge 25, 3) := by decide +kernel
theorem dX2_setAll_31 : decode cX2_setAll 31 = .ok (.aload_n 0, 1) := by decide +kernel
theorem dX2_setAll_32 : decode cX2_setAll 32 = .ok (.iload_n 2, 1) := by decide +kernel
theorem dX2_setAll_33 : decode cX2_setAll 33 = .ok (.invokevirtual 93, 3) := by decide +kernel
theorem dX2_setAll_36 : decode cX2_setAll 36 = .ok (.istore_n 3, 1) := by decide +kernel
theorem dX2_setAll_37 : decode cX2_setAll 37 = .ok (.aload_n 0, 1) := by decide +kernel
theorem dX2_setAll_38 : decode cX2_setAll 38 = .ok (.iload_n 3, 1) := by decide +kernel
theorem dX2_setAll_39 : decode cX2_setAll 39 = .ok (.aload_n 0, 1) := by decide +kernel
theorem dX2_setAll_40 : decode cX2_setAll 40 = .ok (.iload_n 3, 1) := by decide +kernel
theorem dX2_setAll_41 : decode cX2_setAll 41 = .ok (.invokestatic 96, 3) := by decide +kernel
theorem dX2_setAll_44 : decode cX2_setAll 44 = .ok (.invokevirtual 89, 3) := by decide +kernel
theorem dX2_setAll_47 : decode cX2_setAll 47 = .ok (.iinc 2 1, 3) := by decide +kernel
theorem dX2_setAll_50 : decode cX2_setAll 50 = .ok (.goto (-24), 3) := by decide +kernel
theorem dX2_setAll_53 : decode cX2_setAll 53 = .ok (.return_, 1) := by decide +kernel
set_option maxRecDepth 200000 in
theorem ggX2_countPairsTooNear_X4_lineCount : GoodIn wsX2_countPairsTooNear wsX4_lineCount := goodIn_r _ [5, 6, 57, 58, 59, 60, 61, 62] rfl (by decide +kernel)
set_option maxRecDepth 200000 in
theorem gX2_countPairsTooNear_X4_lineCount : GoodIn wsX2_countPairsTooNear (wsV RX2 70 RX4 yX4_lineCount wsX4_lineCount) := goodIn_app (goodIn_of _ (by decide +kernel)) ggX2_countPairsTooNear_X4_lineCount
set_option maxRecDepth 200000 in
theorem ggX2_countPairsTooNear_X2_areTooNear : GoodIn wsX2_countPairsTooNear wsX2_areTooNear := goodIn_r _ [10, 11, 12, 13, 4, 14, 6, 15, 16, 17, 9, 18, 19, 20, 21, 22, 23, 24, 25, 26, 27, 28, 29, 30, 31, 32, 33, 34, 35, 36, 37, 38, 39, 40, 41, 42, 43, 44, 45, 46, 47, 48, 49, 50, 51, 52, 53, 54, 55, 56, 57, 58, 59, 60, 61, 62] rfl (by decide +kernel)
set_option maxRecDepth 200000 in
theorem gX2_countPairsTooNear_X2_areTooNear : GoodIn wsX2_countPairsTooNear (va_wsS RX2 100 yX2_areTooNear wsX2_areTooNear) := goodIn_app (goodIn_of _ (by decide +kernel)) ggX2_countPairsTooNear_X2_areTooNear
theorem dX2_countPairsTooNear_0 : decode cX2_countPairsTooNear 0 = .ok (.iconst 0, 1) := by decide +kernel
theorem dX2_countPairsTooNear_1 : decode cX2_countPairsTooNear 1 = .ok (.istore_n 1, 1) := by decide +kernel
theorem dX2_countPairsTooNear_2 : decode cX2_countPairsTooNear 2 = .ok (.iconst 0, 1) := by decide +kernel
theorem dX2_countPairsTooNear_3 : decode cX2_countPairsTooNear 3 = .ok (.istore_n 2, 1) := by decide +kernel
theorem dX2_countPairsTooNear_4 : decode cX2_countPairsTooNear 4 = .ok (.iload_n 2, 1) := by decide +kernel
theorem dX2_countPairsTooNear_5 : decode cX2_countPairsTooNear 5 = .ok (.aload_n 0, 1) := by decide +kernel
theorem dX2_countPairsTooNear_6 : decode cX2_countPairsTooNear 6 = .ok (.invokevirtual 70, 3) := by decide +kernel
theorem dX2_countPairsTooNear_9 : decode cX2_countPairsTooNear 9 = .ok (.if_icmp .ge 39, 3) := by decide +kernel
theorem dX2_countPairsTooNear_12 : decode cX2_countPairsTooNear 12 = .ok (.iload_n 2, 1) := by decide +kernel
theorem dX2_countPairsTooNear_13 : decode cX2_countPairsTooNear 13 = .ok (.iconst 1, 1) := by decide +kernel
theorem dX2_countPairsTooNear_14 : decode cX2_countPairsTooNear 14 = .ok (.iadd, 1) := by decide +kernel
theorem dX2_countPairsTooNear_15 : decode cX2_countPairsTooNear 15 = .ok (.istore_n 3, 1) := by decide +kernel
theorem dX2_countPairsTooNear_16 : decode cX2_countPairsTooNear 16 = .ok (.iload_n 3, 1) := by decide +kernel
theorem dX2_countPairsTooNear_17 : decode cX2_countPairsTooNear 17 = .ok (.aload_n 0, 1) := by decide +kernel
theorem dX2_countPairsTooNear_18 : decode cX2_countPairsTooNear 18 = .ok (.invokevirtual 70, 3) := by decide +kernel
theorem dX2_countPairsTooNear_21 : decode cX2_countPairsTooNear 21 = .ok (.if_icmp .ge 21, 3) := by decide +kernel
theorem dX2_countPairsTooNear_24 : decode cX2_countPairsTooNear 24 = .ok (.aload_n 0, 1) := by decide +kernel
theorem dX2_countPairsTooNear_25 : decode cX2_countPairsTooNear 25 = .ok (.iload_n 2, 1) := by decide +kernel
theorem dX2_countPairsTooNear_26 : decode cX2_countPairsTooNear 26 = .ok (.iload_n 3, 1) := by decide +kernel
theorem dX2_countPairsTooNear_27 : decode cX2_countPairsTooNear 27 = .ok (.invokestatic 100, 3) := by decide +kernel
theorem dX2_countPairsTooNear_30 : decode cX2_countPairsTooNear 30 = .ok (.ifCond .eq 6, 3) := by decide +kernel
theorem dX2_countPairsTooNear_33 : decode cX2_countPairsTooNear 33 = .ok (.iinc 1 1, 3) := by decide +kernel
theorem dX2_countPairsTooNear_36 : decode cX2_countPairsTooNear 36 = .ok (.iinc 3 1, 3) := by decide +kernel
theorem dX2_countPairsTooNear_39 : decode cX2_countPairsTooNear 39 = .ok (.goto (-23), 3) := by decide +kernel
theorem dX2_countPairsTooNear_42 : decode cX2_countPairsTooNear 42 = .ok (.iinc 2 1, 3) := by decide +kernel
theorem dX2_countPairsTooNear_45 : decode cX2_countPairsTooNear 45 = .ok (.goto (-41), 3) := by decide +kernel
theorem dX2_countPairsTooNear_48 : decode cX2_countPairsTooNear 48 = .ok (.iload_n 1, 1) := by decide +kernel
theorem dX2_countPairsTooNear_49 : decode cX2_countPairsTooNear 49 = .ok (.ireturn, 1) := by decide +kernel
set_option maxRecDepth 200000 in
theorem ggX2_areTooNear_X4_labelIn : GoodIn wsX2_areTooNear wsX4_labelIn := goodIn_r _ [5, 6, 7, 50, 51, 52, 53, 54, 55] rfl (by decide +kernel)
set_option maxRecDepth 200000 in
theorem gX2_areTooNear_X4_labelIn : GoodIn wsX2_areTooNear (wsV RX2 73 RX4 yX4_labelIn wsX4_labelIn) := goodIn_app (goodIn_of _ (by decide +kernel)) ggX2_areTooNear_X4_labelIn
set_option maxRecDepth 200000 in
theorem ggX2_areTooNear_X2_distanceToLabel : GoodIn wsX2_areTooNear wsX2_distanceToLabel := goodIn_r _ [11, 12, 13, 14, 15, 1, 2, 3, 4, 5, 6, 7, 16, 17, 10, 18, 19, 20, 21, 22, 23, 24, 25, 26, 27, 28, 29, 30, 31, 32, 33, 34, 35, 36, 37, 38, 39, 40, 41, 42, 43, 44, 50, 51, 52, 53, 54, 55] rfl (by decide +kernel)
set_option maxRecDepth 200000 in
theorem gX2_areTooNear_X2_distanceToLabel : GoodIn wsX2_areTooNear (va_wsS RX2 76 yX2_distanceToLabel wsX2_distanceToLabel) := goodIn_app (goodIn_of _ (by decide +kernel)) ggX2_areTooNear_X2_distanceToLabel
set_option maxRecDepth 200000 in
theorem ggX2_areTooNear_X4_gapWidth : GoodIn wsX2_areTooNear wsX4_gapWidth := goodIn_r _ [48, 49, 50, 51, 52, 53, 54, 55] rfl (by decide +kernel)
set_option maxRecDepth 200000 in
theorem gX2_areTooNear_X4_gapWidth : GoodIn wsX2_areTooNear (wsV RX2 60 RX4 yX4_gapWidth wsX4_gapWidth) := goodIn_app (goodIn_of _ (by decide +kernel)) ggX2_areTooNear_X4_gapWidth
theorem dX2_areTooNear_0 : decode cX2_areTooNear 0 = .ok (.aload_n 0, 1) := by decide +kernel
theorem dX2_areTooNear_1 : decode cX2_areTooNear 1 = .ok (.iload_n 1, 1) := by decide +kernel
theorem dX2_areTooNear_2 : decode cX2_areTooNear 2 = .ok (.invokevirtual 73, 3) := by decide +kernel
theorem dX2_areTooNear_5 : decode cX2_areTooNear 5 = .ok (.istore_n 3, 1) := by decide +kernel
theorem dX2_areTooNear_6 : decode cX2_areTooNear 6 = .ok (.iload_n 3, 1) := by decide +kernel
theorem dX2_areTooNear_7 : decode cX2_areTooNear 7 = .ok (.iconst (-1), 1) := by decide +kernel
theorem dX2_areTooNear_8 : decode cX2_areTooNear 8 = .ok (.if_icmp .eq 12, 3) := by decide +kernel
theorem dX2_areTooNear_11 : decode cX2_areTooNear 11 = .ok (.aload_n 0, 1) := by decide +kernel
theorem dX2_areTooNear_12 : decode cX2_areTooNear 12 = .ok (.iload_n 2, 1) := by decide +kernel
theorem dX2_areTooNear_13 : decode cX2_areTooNear 13 = .ok (.invokevirtual 73, 3) := by decide +kernel
theorem dX2_areTooNear_16 : decode cX2_areTooNear 16 = .ok (.iconst (-1), 1) := by decide +kernel
theorem dX2_areTooNear_17 : decode cX2_areTooNear 17 = .ok (.if_icmp .ne 5, 3) := by decide +kernel
theorem dX2_areTooNear_20 : decode cX2_areTooNear 20 = .ok (.iconst 0, 1) := by decide +kernel
theorem dX2_areTooNear_21 : decode cX2_areTooNear 21 = .ok (.ireturn, 1) := by decide +kernel
theorem dX2_areTooNear_22 : decode cX2_areTooNear 22 = .ok (.aload_n 0, 1) := by decide +kernel
theorem dX2_areTooNear_23 : decode cX2_areTooNear 23 = .ok (.iload_n 1, 1) := by decide +kernel
theorem dX2_areTooNear_24 : decode cX2_areTooNear 24 = .ok (.iload_n 3, 1) := by decide +kernel
theorem dX2_areTooNear_25 : decode cX2_areTooNear 25 = .ok (.iload_n 2, 1) := by decide +kernel
theorem dX2_areTooNear_26 : decode cX2_areTooNear 26 = .ok (.invokestatic 76, 3) := by decide +kernel
theorem dX2_areTooNear_29 : decode cX2_areTooNear 29 = .ok (.aload_n 0, 1) := by decide +kernel
theorem dX2_areTooNear_30 : decode cX2_areTooNear 30 = .ok (.invokevirtual 60, 3) := by decide +kernel
theorem dX2_areTooNear_33 : decode cX2_areTooNear 33 = .ok (.if_icmp .ge 7, 3) := by decide +kernel
theorem dX2_areTooNear_36 : decode cX2_areTooNear 36 = .ok (.iconst 1, 1) := by decide +kernel
theorem dX2_areTooNear_37 : decode cX2_areTooNear 37 = .ok (.goto 4, 3) := by decide +kernel
theorem dX2_areTooNear_40 : decode cX2_areTooNear 40 = .ok (.iconst 0, 1) := by decide +kernel
theorem dX2_areTooNear_41 : decode cX2_areTooNear 41 = .ok (.ireturn, 1) := by decide +kernel
theorem dX3_init_0 : decode cX3_init 0 = .ok (.aload_n 0, 1) := by decide +kernel
theorem dX3_init_1 : decode cX3_init 1 = .ok (.invokespecial 3, 3) := by decide +kernel
theorem dX3_init_4 : decode cX3_init 4 = .ok (.aload_n 0, 1) := by decide +kernel
theorem dX3_init_5 : decode cX3_init 5 = .ok (.bipush 60, 2) := by decide +kernel
theorem dX3_init_7 : decode cX3_init 7 = .ok (.newarray .int, 2) := by decide +kernel
theorem dX3_init_9 : decode cX3_init 9 = .ok (.putfield 11, 3) := by decide +kernel
theorem dX3_init_12 : decode cX3_init 12 = .ok (.return_, 1) := by decide +kernel
theorem dX4_init_0 : decode cX4_init 0 = .ok (.aload_n 0, 1) := by decide +kernel
theorem dX4_init_1 : decode cX4_init 1 = .ok (.invokespecial 3, 3) := by decide +kernel
theorem dX4_init_4 : decode cX4_init 4 = .ok (.aload_n 0, 1) := by decide +kernel
theorem dX4_init_5 : decode cX4_init 5 = .ok (.iconst 2, 1) := by decide +kernel
theorem dX4_init_6 : decode cX4_init 6 = .ok (.putfield 9, 3) := by decide +kernel
theorem dX4_init_9 : decode cX4_init 9 = .ok (.aload_n 0, 1) := by decide +kernel
theorem dX4_init_10 : decode cX4_init 10 = .ok (.bipush 8, 2) := by decide +kernel
theorem dX4_init_12 : decode cX4_init 12 = .ok (.newarray .int, 2) := by decide +kernel
theorem dX4_init_14 : decode cX4_init 14 = .ok (.putfield 15, 3) := by decide +kernel
theorem dX4_init_17 : decode cX4_init 17 = .ok (.aload_n 0, 1) := by decide +kernel
theorem dX4_init_18 : decode cX4_init 18 = .ok (.bipush 8, 2) := by decide +kernel
theorem dX4_init_20 : decode cX4_init 20 = .ok (.newarray .int, 2) := by decide +kernel
theorem dX4_init_22 : decode cX4_init 22 = .ok (.putfield 19, 3) := by decide +kernel
theorem dX4_init_25 : decode cX4_init 25 = .ok (.aload_n 0, 1) := by decide +kernel
theorem dX4_init_26 : decode cX4_init 26 = .ok (.bipush 8, 2) := by decide +kernel
theorem dX4_init_28 : decode cX4_init 28 = .ok (.newarray .int, 2) := by decide +kernel
theorem dX4_init_30 : decode cX4_init 30 = .ok (.putfield 22, 3) := by decide +kernel
theorem dX4_init_33 : decode cX4_init 33 = .ok (.aload_n 0, 1) := by decide +kernel
theorem dX4_init_34 : decode cX4_init 34 = .ok (.sipush 488, 3) := by decide +kernel
theorem dX4_init_37 : decode cX4_init 37 = .ok (.newarray .int, 2) := by decide +kernel
theorem dX4_init_39 : decode cX4_init 39 = .ok (.putfield 25, 3) := by decide +kernel
theorem dX4_init_42 : decode cX4_init 42 = .ok (.return_, 1) := by decide +kernel
theorem dX4_copyFrom_0 : decode cX4_copyFrom 0 = .ok (.aload_n 0, 1) := by decide +kernel
theorem dX4_copyFrom_1 : decode cX4_copyFrom 1 = .ok (.aload_n 1, 1) := by decide +kernel
theorem dX4_copyFrom_2 : decode cX4_copyFrom 2 = .ok (.getfield 28, 3) := by decide +kernel
theorem dX4_copyFrom_5 : decode cX4_copyFrom 5 = .ok (.putfield 28, 3) := by decide +kernel
theorem dX4_copyFrom_8 : decode cX4_copyFrom 8 = .ok (.aload_n 0, 1) := by decide +kernel
theorem dX4_copyFrom_9 : decode cX4_copyFrom 9 = .ok (.aload_n 1, 1) := by decide +kernel
theorem dX4_copyFrom_10 : decode cX4_copyFrom 10 = .ok (.getfield 9, 3) := by decide +kernel
theorem dX4_copyFrom_13 : decode cX4_copyFrom 13 = .ok (.putfield 9, 3) := by decide +kernel
theorem dX4_copyFrom_16 : decode cX4_copyFrom 16 = .ok (.aload_n 1, 1) := by decide +kernel
theorem dX4_copyFrom_17 : decode cX4_copyFrom 17 = .ok (.getfield 15, 3) := by decide +kernel
theorem dX4_copyFrom_20 : decode cX4_copyFrom 20 = .ok (.iconst 0, 1) := by decide +kernel
theorem dX4_copyFrom_21 : decode cX4_copyFrom 21 = .ok (.aload_n 0, 1) := by decide +kernel
theorem dX4_copyFrom_22 : decode cX4_copyFrom 22 = .ok (.getfield 15, 3) := by decide +kernel
theorem dX4_copyFrom_25 : decode cX4_copyFrom 25 = .ok (.iconst 0, 1) := by decide +kernel
