theorem dX0_init_0 : decode cX0_init 0 = .ok (.aload_n 0, 1) := by decide +kernel
theorem dX0_init_1 : decode cX0_init 1 = .ok (.invokespecial 3, 3) := by decide +kernel
theorem dX0_init_4 : decode cX0_init 4 = .ok (.aload_n 0, 1) := by decide +kernel
theorem dX0_init_5 : decode cX0_init 5 = .ok (.sipush 3456, 3) := by decide +kernel
theorem dX0_init_8 : decode cX0_init 8 = .ok (.newarray .int, 2) := by decide +kernel
theorem dX0_init_10 : decode cX0_init 10 = .ok (.putfield 9, 3) := by decide +kernel
theorem dX0_init_13 : decode cX0_init 13 = .ok (.aload_n 0, 1) := by decide +kernel
theorem dX0_init_14 : decode cX0_init 14 = .ok (.sipush 3456, 3) := by decide +kernel
theorem dX0_init_17 : decode cX0_init 17 = .ok (.newarray .int, 2) := by decide +kernel
theorem dX0_init_19 : decode cX0_init 19 = .ok (.putfield 13, 3) := by decide +kernel
theorem dX0_init_22 : decode cX0_init 22 = .ok (.return_, 1) := by decide +kernel
set_option maxRecDepth 200000 in
theorem ggX0_dotOf_X6_rowOf : GoodIn wsX0_dotOf wsX6_rowOf := goodIn_r _ [3] rfl (by decide +kernel)
set_option maxRecDepth 200000 in
theorem gX0_dotOf_X6_rowOf_n16 : GoodIn wsX0_dotOf (wsX6_rowOf) := ggX0_dotOf_X6_rowOf
set_option maxRecDepth 200000 in
theorem ggX0_dotOf_X6_columnOf : GoodIn wsX0_dotOf wsX6_columnOf := goodIn_r _ [5] rfl (by decide +kernel)
set_option maxRecDepth 200000 in
theorem gX0_dotOf_X6_columnOf_n22 : GoodIn wsX0_dotOf (wsX6_columnOf) := ggX0_dotOf_X6_columnOf
theorem dX0_dotOf_0 : decode cX0_dotOf 0 = .ok (.iconst 3, 1) := by decide +kernel
theorem dX0_dotOf_1 : decode cX0_dotOf 1 = .ok (.iload_n 0, 1) := by decide +kernel
theorem dX0_dotOf_2 : decode cX0_dotOf 2 = .ok (.invokestatic 16, 3) := by decide +kernel
theorem dX0_dotOf_5 : decode cX0_dotOf 5 = .ok (.imul, 1) := by decide +kernel
theorem dX0_dotOf_6 : decode cX0_dotOf 6 = .ok (.iconst 1, 1) := by decide +kernel
theorem dX0_dotOf_7 : decode cX0_dotOf 7 = .ok (.iadd, 1) := by decide +kernel
theorem dX0_dotOf_8 : decode cX0_dotOf 8 = .ok (.bipush 72, 2) := by decide +kernel
theorem dX0_dotOf_10 : decode cX0_dotOf 10 = .ok (.imul, 1) := by decide +kernel
theorem dX0_dotOf_11 : decode cX0_dotOf 11 = .ok (.iconst 3, 1) := by decide +kernel
theorem dX0_dotOf_12 : decode cX0_dotOf 12 = .ok (.iload_n 0, 1) := by decide +kernel
theorem dX0_dotOf_13 : decode cX0_dotOf 13 = .ok (.invokestatic 22, 3) := by decide +kernel
theorem dX0_dotOf_16 : decode cX0_dotOf 16 = .ok (.imul, 1) := by decide +kernel
theorem dX0_dotOf_17 : decode cX0_dotOf 17 = .ok (.iadd, 1) := by decide +kernel
theorem dX0_dotOf_18 : decode cX0_dotOf 18 = .ok (.iconst 1, 1) := by decide +kernel
theorem dX0_dotOf_19 : decode cX0_dotOf 19 = .ok (.iadd, 1) := by decide +kernel
theorem dX0_dotOf_20 : decode cX0_dotOf 20 = .ok (.ireturn, 1) := by decide +kernel
theorem dX0_isDot_0 : decode cX0_isDot 0 = .ok (.iload_n 0, 1) := by decide +kernel
theorem dX0_isDot_1 : decode cX0_isDot 1 = .ok (.ifCond .lt 14, 3) := by decide +kernel
theorem dX0_isDot_4 : decode cX0_isDot 4 = .ok (.iload_n 0, 1) := by decide +kernel
theorem dX0_isDot_5 : decode cX0_isDot 5 = .ok (.sipush 3456, 3) := by decide +kernel
theorem dX0_isDot_8 : decode cX0_isDot 8 = .ok (.if_icmp .ge 7, 3) := by decide +kernel
theorem dX0_isDot_11 : decode cX0_isDot 11 = .ok (.iconst 1, 1) := by decide +kernel
theorem dX0_isDot_12 : decode cX0_isDot 12 = .ok (.goto 4, 3) := by decide +kernel
theorem dX0_isDot_15 : decode cX0_isDot 15 = .ok (.iconst 0, 1) := by decide +kernel
theorem dX0_isDot_16 : decode cX0_isDot 16 = .ok (.ireturn, 1) := by decide +kernel
set_option maxRecDepth 200000 in
theorem ggX0_drawLine_X4_stepCount : GoodIn wsX0_drawLine wsX4_stepCount := goodIn_r _ [6, 7, 8, 39, 40, 41, 42, 43, 44] rfl (by decide +kernel)
set_option maxRecDepth 200000 in
theorem gX0_drawLine_X4_stepCount : GoodIn wsX0_drawLine (wsV RX0 25 RX4 yX4_stepCount wsX4_stepCount) := goodIn_app (goodIn_of _ (by decide +kernel)) ggX0_drawLine_X4_stepCount
set_option maxRecDepth 200000 in
theorem ggX0_drawLine_X4_pointAt : GoodIn wsX0_drawLine wsX4_pointAt := goodIn_r _ [12, 7, 8, 13, 39, 40, 41, 42, 43, 44] rfl (by decide +kernel)
set_option maxRecDepth 200000 in
theorem gX0_drawLine_X4_pointAt : GoodIn wsX0_drawLine (wsV RX0 30 RX4 yX4_pointAt wsX4_pointAt) := goodIn_app (goodIn_of _ (by decide +kernel)) ggX0_drawLine_X4_pointAt
set_option maxRecDepth 200000 in
theorem ggX0_drawLine_X0_dotOf : GoodIn wsX0_drawLine wsX0_dotOf := goodIn_r _ [17, 18, 19, 20, 21, 22] rfl (by decide +kernel)
set_option maxRecDepth 200000 in
theorem gX0_drawLine_X0_dotOf : GoodIn wsX0_drawLine (va_wsS RX0 34 yX0_dotOf wsX0_dotOf) := goodIn_app (goodIn_of _ (by decide +kernel)) ggX0_drawLine_X0_dotOf
set_option maxRecDepth 200000 in
theorem ggX0_drawLine_X4_directionAt : GoodIn wsX0_drawLine wsX4_directionAt := goodIn_r _ [26, 7, 8, 13, 39, 40, 41, 42, 43, 44] rfl (by decide +kernel)
set_option maxRecDepth 200000 in
theorem gX0_drawLine_X4_directionAt : GoodIn wsX0_drawLine (wsV RX0 37 RX4 yX4_directionAt wsX4_directionAt) := goodIn_app (goodIn_of _ (by decide +kernel)) ggX0_drawLine_X4_directionAt
set_option maxRecDepth 200000 in
theorem ggX0_drawLine_X0_drawStep : GoodIn wsX0_drawLine wsX0_drawStep := goodIn_r _ [30, 1, 31, 19, 32, 33, 34, 16, 35, 36, 37, 38] rfl (by decide +kernel)
set_option maxRecDepth 200000 in
theorem gX0_drawLine_X0_drawStep : GoodIn wsX0_drawLine (wsV RX0 40 RX0 yX0_drawStep wsX0_drawStep) := goodIn_app (goodIn_of _ (by decide +kernel)) ggX0_drawLine_X0_drawStep
theorem dX0_drawLine_0 : decode cX0_drawLine 0 = .ok (.iconst 0, 1) := by decide +kernel
theorem dX0_drawLine_1 : decode cX0_drawLine 1 = .ok (.istore_n 3, 1) := by decide +kernel
theorem dX0_drawLine_2 : decode cX0_drawLine 2 = .ok (.iload_n 3, 1) := by decide +kernel
theorem dX0_drawLine_3 : decode cX0_drawLine 3 = .ok (.sipush 3456, 3) := by decide +kernel
theorem dX0_drawLine_6 : decode cX0_drawLine 6 = .ok (.if_icmp .ge 16, 3) := by decide +kernel
theorem dX0_drawLine_9 : decode cX0_drawLine 9 = .ok (.aload_n 0, 1) := by decide +kernel
theorem dX0_drawLine_10 : decode cX0_drawLine 10 = .ok (.getfield 9, 3) := by decide +kernel
theorem dX0_drawLine_13 : decode cX0_drawLine 13 = .ok (.iload_n 3, 1) := by decide +kernel
theorem dX0_drawLine_14 : decode cX0_drawLine 14 = .ok (.iconst 0, 1) := by decide +kernel
theorem dX0_drawLine_15 : decode cX0_drawLine 15 = .ok (.iastore, 1) := by decide +kernel
theorem dX0_drawLine_16 : decode cX0_drawLine 16 = .ok (.iinc 3 1, 3) := by decide +kernel
theorem dX0_drawLine_19 : decode cX0_drawLine 19 = .ok (.goto (-17), 3) := by decide +kernel
theorem dX0_drawLine_22 : decode cX0_drawLine 22 = .ok (.aload_n 1, 1) := by decide +kernel
theorem dX0_drawLine_23 : decode cX0_drawLine 23 = .ok (.iload_n 2, 1) := by decide +kernel
theorem dX0_drawLine_24 : decode cX0_drawLine 24 = .ok (.invokevirtual 25, 3) := by decide +kernel
theorem dX0_drawLine_27 : decode cX0_drawLine 27 = .ok (.istore_n 3, 1) := by decide +kernel
theorem dX0_drawLine_28 : decode cX0_drawLine 28 = .ok (.iconst 0, 1) := by decide +kernel
theorem dX0_drawLine_29 : decode cX0_drawLine 29 = .ok (.istore 4, 2) := by decide +kernel
theorem dX0_drawLine_31 : decode cX0_drawLine 31 = .ok (.iload 4, 2) := by decide +kernel
theorem dX0_drawLine_33 : decode cX0_drawLine 33 = .ok (.iload_n 3, 1) := by decide +kernel
theorem dX0_drawLine_34 : decode cX0_drawLine 34 = .ok (.if_icmp .ge 30, 3) := by decide +kernel
theorem dX0_drawLine_37 : decode cX0_drawLine 37 = .ok (.aload_n 0, 1) := by decide +kernel
theorem dX0_drawLine_38 : decode cX0_drawLine 38 = .ok (.aload_n 1, 1) := by decide +kernel
theorem dX0_drawLine_39 : decode cX0_drawLine 39 = .ok (.iload_n 2, 1) := by decide +kernel
theorem dX0_drawLine_40 : decode cX0_drawLine 40 = .ok (.iload 4, 2) := by decide +kernel
theorem dX0_drawLine_42 : decode cX0_drawLine 42 = .ok (.invokevirtual 30, 3) := by decide +kernel
theorem dX0_drawLine_45 : decode cX0_drawLine 45 = .ok (.invokestatic 34, 3) := by decide +kernel
theorem dX0_drawLine_48 : decode cX0_drawLine 48 = .ok (.aload_n 1, 1) := by decide +kernel
theorem dX0_drawLine_49 : decode cX0_drawLine 49 = .ok (.iload_n 2, 1) := by decide +kernel
theorem dX0_drawLine_50 : decode cX0_drawLine 50 = .ok (.iload 4, 2) := by decide +kernel
theorem dX0_drawLine_52 : decode cX0_drawLine 52 = .ok (.invokevirtual 37, 3) := by decide +kernel
theorem dX0_drawLine_55 : decode cX0_drawLine 55 = .ok (.invokevirtual 40, 3) := by decide +kernel
theorem dX0_drawLine_58 : decode cX0_drawLine 58 = .ok (.iinc 4 1, 3) := by decide +kernel
theorem dX0_drawLine_61 : decode cX0_drawLine 61 = .ok (.goto (-30), 3) := by decide +kernel
theorem dX0_drawLine_64 : decode cX0_drawLine 64 = .ok (.return_, 1) := by decide +kernel
set_option maxRecDepth 200000 in
theorem ggX0_drawStep_X6_isDirection : GoodIn wsX0_drawStep wsX6_isDirection := goodIn_r _ [4] rfl (by decide +kernel)
set_option maxRecDepth 200000 in
theorem gX0_drawStep_X6_isDirection_n44 : GoodIn wsX0_drawStep (wsX6_isDirection) := ggX0_drawStep_X6_isDirection
set_option maxRecDepth 200000 in
theorem ggX0_drawStep_X0_isDot : GoodIn wsX0_drawStep wsX0_isDot := goodIn_r _ [8] rfl (by decide +kernel)
set_option maxRecDepth 200000 in
theorem gX0_drawStep_X0_isDot : GoodIn wsX0_drawStep (va_wsS RX0 54 yX0_isDot wsX0_isDot) := goodIn_app (goodIn_of _ (by decide +kernel)) ggX0_drawStep_X0_isDot
theorem dX0_drawStep_0 : decode cX0_drawStep 0 = .ok (.iload_n 2, 1) := by decide +kernel
theorem dX0_drawStep_1 : decode cX0_drawStep 1 = .ok (.invokestatic 44, 3) := by decide +kernel
theorem dX0_drawStep_4 : decode cX0_drawStep 4 = .ok (.ifCond .ne 4, 3) := by decide +kernel
theorem dX0_drawStep_7 : decode cX0_drawStep 7 = .ok (.return_, 1) := by decide +kernel
theorem dX0_drawStep_8 : decode cX0_drawStep 8 = .ok (.getstatic 48, 3) := by decide +kernel
theorem dX0_drawStep_11 : decode cX0_drawStep 11 = .ok (.iload_n 2, 1) := by decide +kernel
theorem dX0_drawStep_12 : decode cX0_drawStep 12 = .ok (.iaload, 1) := by decide +kernel
theorem dX0_drawStep_13 : decode cX0_drawStep 13 = .ok (.bipush 72, 2) := by decide +kernel
theorem dX0_drawStep_15 : decode cX0_drawStep 15 = .ok (.imul, 1) := by decide +kernel
theorem dX0_drawStep_16 : decode cX0_drawStep 16 = .ok (.getstatic 51, 3) := by decide +kernel
theorem dX0_drawStep_19 : decode cX0_drawStep 19 = .ok (.iload_n 2, 1) := by decide +kernel
theorem dX0_drawStep_20 : decode cX0_drawStep 20 = .ok (.iaload, 1) := by decide +kernel
theorem dX0_drawStep_21 : decode cX0_drawStep 21 = .ok (.iadd, 1) := by decide +kernel
theorem dX0_drawStep_22 : decode cX0_drawStep 22 = .ok (.istore_n 3, 1) := by decide +kernel
theorem dX0_drawStep_23 : decode cX0_drawStep 23 = .ok (.iconst 0, 1) := by decide +kernel
theorem dX0_drawStep_24 : decode cX0_drawStep 24 = .ok (.istore 4, 2) := by decide +kernel
theorem dX0_drawStep_26 : decode cX0_drawStep 26 = .ok (.iload 4, 2) := by decide +kernel
theorem dX0_drawStep_28 : decode cX0_drawStep 28 = .ok (.iconst 3, 1) := by decide +kernel
theorem dX0_drawStep_29 : decode cX0_drawStep 29 = .ok (.if_icmp .ge 33, 3) := by decide +kernel
theorem dX0_drawStep_32 : decode cX0_drawStep 32 = .ok (.iload_n 1, 1) := by decide +kernel
theorem dX0_drawStep_33 : decode cX0_drawStep 33 = .ok (.iload 4, 2) := by decide +kernel
theorem dX0_drawStep_35 : decode cX0_drawStep 35 = .ok (.iload_n 3, 1) := by decide +kernel
theorem dX0_drawStep_36 : decode cX0_drawStep 36 = .ok (.imul, 1) := by decide +kernel
theorem dX0_drawStep_37 : decode cX0_drawStep 37 = .ok (.iadd, 1) := by decide +kernel
theorem dX0_drawStep_38 : decode cX0_drawStep 38 = .ok (.istore 5, 2) := by decide +kernel
theorem dX0_drawStep_40 : decode cX0_drawStep 40 = .ok (.iload 5, 2) := by decide +kernel
theorem dX0_drawStep_42 : decode cX0_drawStep 42 = .ok (.invokestatic 54, 3) := by decide +kernel
theorem dX0_drawStep_45 : decode cX0_drawStep 45 = .ok (.ifCond .eq 11, 3) := by decide +kernel
theorem dX0_drawStep_48 : decode cX0_drawStep 48 = .ok (.aload_n 0, 1) := by decide +kernel
theorem dX0_drawStep_49 : decode cX0_drawStep 49 = .ok (.getfield 9, 3) := by decide +kernel
theorem dX0_drawStep_52 : decode cX0_drawStep 52 = .ok (.iload 5, 2) := by decide +kernel
theorem dX0_drawStep_54 : decode cX0_drawStep 54 = .ok (.iconst 1, 1) := by decide +kernel
theorem dX0_drawStep_55 : decode cX0_drawStep 55 = .ok (.iastore, 1) := by decide +kernel
theorem dX0_drawStep_56 : decode cX0_drawStep 56 = .ok (.iinc 4 1, 3) := by decide +kernel
theorem dX0_drawStep_59 : decode cX0_drawStep 59 = .ok (.goto (-33), 3) := by decide +kernel
theorem dX0_drawStep_62 : decode cX0_drawStep 62 = .ok (.return_, 1) := by decide +kernel
set_option maxRecDepth 200000 in
theorem ggX0_spread_X0_reach : GoodIn wsX0_spread wsX0_reach := goodIn_r _ [7, 8, 1, 2, 9, 10, 6, 11, 12, 13, 14] rfl (by decide +kernel)
set_option maxRecDepth 200000 in
theorem gX0_spread_X0_reach : GoodIn wsX0_spread (wsV RX0 61 RX0 yX0_reach wsX0_reach) := goodIn_app (goodIn_of _ (by decide +kernel)) ggX0_spread_X0_reach
theorem dX0_spread_0 : decode cX0_spread 0 = .ok (.aload_n 0, 1) := by decide +kernel
theorem dX0_spread_1 : decode cX0_spread 1 = .ok (.iconst 0, 1) := by decide +kernel
theorem dX0_spread_2 : decode cX0_spread 2 = .ok (.putfield 57, 3) := by decide +kernel
theorem dX0_spread_5 : decode cX0_spread 5 = .ok (.aload_n 0, 1) := by decide +kernel
theorem dX0_spread_6 : decode cX0_spread 6 = .ok (.iconst 0, 1) := by decide +kernel
theorem dX0_spread_7 : decode cX0_spread 7 = .ok (.invokevirtual 61, 3) := by decide +kernel
theorem dX0_spread_10 : decode cX0_spread 10 = .ok (.iconst 0, 1) := by decide +kernel
theorem dX0_spread_11 : decode cX0_spread 11 = .ok (.istore_n 1, 1) := by decide +kernel
theorem dX0_spread_12 : decode cX0_spread 12 = .ok (.iload_n 1, 1) := by decide +kernel
theorem dX0_spread_13 : decode cX0_spread 13 = .ok (.aload_n 0, 1) := by decide +kernel
theorem dX0_spread_14 : decode cX0_spread 14 = .ok (.getfield 57, 3) := by decide +kernel
theorem dX0_spread_17 : decode cX0_spread 17 = .ok (.if_icmp .ge 68, 3) := by decide +kernel
theorem dX0_spread_20 : decode cX0_spread 20 = .ok (.iload_n 1, 1) := by decide +kernel
theorem dX0_spread_21 : decode cX0_spread 21 = .ok (.sipush 3456, 3) := by decide +kernel
theorem dX0_spread_24 : decode cX0_spread 24 = .ok (.if_icmp .ge 61, 3) := by decide +kernel
theorem dX0_spread_27 : decode cX0_spread 27 = .ok (.aload_n 0, 1) := by decide +kernel
theorem dX0_spread_28 : decode cX0_spread 28 = .ok (.getfield 13, 3) := by decide +kernel
theorem dX0_spread_31 : decode cX0_spread 31 = .ok (.iload_n 1, 1) := by decide +kernel
theorem dX0_spread_32 : decode cX0_spread 32 = .ok (.iaload, 1) := by decide +kernel
theorem dX0_spread_33 : decode cX0_spread 33 = .ok (.istore_n 2, 1) := by decide +kernel
theorem dX0_spread_34 : decode cX0_spread 34 = .ok (.iload_n 2, 1) := by decide +kernel
theorem dX0_spread_35 : decode cX0_spread 35 = .ok (.bipush 72, 2) := by decide +kernel
theorem dX0_spread_37 : decode cX0_spread 37 = .ok (.irem, 1) := by decide +kernel
theorem dX0_spread_38 : decode cX0_spread 38 = .ok (.istore_n 3, 1) := by decide +kernel
theorem dX0_spread_39 : decode cX0_spread 39 = .ok (.iload_n 3, 1) := by decide +kernel
theorem dX0_spread_40 : decode cX0_spread 40 = .ok (.ifCond .le 10, 3) := by decide +kernel
theorem dX0_spread_43 : decode cX0_spread 43 = .ok (.aload_n 0, 1) := by decide +kernel
theorem dX0_spread_44 : decode cX0_spread 44 = .ok (.iload_n 2, 1) := by decide +kernel
theorem dX0_spread_45 : decode cX0_spread 45 = .ok (.iconst 1, 1) := by decide +kernel
theorem dX0_spread_46 : decode cX0_spread 46 = .ok (.isub, 1) := by decide +kernel
theorem dX0_spread_47 : decode cX0_spread 47 = .ok (.invokevirtual 61, 3) := by decide +kernel
theorem dX0_spread_50 : decode cX0_spread 50 = .ok (.iload_n 3, 1) := by decide +kernel
theorem dX0_spread_51 : decode cX0_spread 51 = .ok (.bipush 71, 2) := by decide +kernel
theorem dX0_spread_53 : decode cX0_spread 53 = .ok (.if_icmp .ge 10, 3) := by decide +kernel
theorem dX0_spread_56 : decode cX0_spread 56 = .ok (.aload_n 0, 1) := by decide +kernel
theorem dX0_spread_57 : decode cX0_spread 57 = .ok (.iload_n 2, 1) := by decide +kernel
theorem dX0_spread_58 : decode cX0_spread 58 = .ok (.iconst 1, 1) := by decide +kernel
theorem dX0_spread_59 : decode cX0_spread 59 = .ok (.iadd, 1) := by decide +kernel
theorem dX0_spread_60 : decode cX0_spread 60 = .ok (.invokevirtual 61, 3) := by decide +kernel
theorem dX0_spread_63 : decode cX0_spread 63 = .ok (.aload_n 0, 1) := by decide +kernel
theorem dX0_spread_64 : decode cX0_spread 64 = .ok (.iload_n 2, 1) := by decide +kernel
theorem dX0_spread_65 : decode cX0_spread 65 = .ok (.bipush 72, 2) := by decide +kernel
theorem dX0_spread_67 : decode cX0_spread 67 = .ok (.isub, 1) := by decide +kernel
theorem dX0_spread_68 : decode cX0_spread 68 = .ok (.invokevirtual 61, 3) := by decide +kernel
theorem dX0_spread_71 : decode cX0_spread 71 = .ok (.aload_n 0, 1) := by decide +kernel
theorem dX0_spread_72 : decode cX0_spread 72 = .ok (.iload_n 2, 1) := by decide +kernel
theorem dX0_spread_73 : decode cX0_spread 73 = .ok (.bipush 72, 2) := by decide +kernel
theorem dX0_spread_75 : decode cX0_spread 75 = .ok (.iadd, 1) := by decide +kernel
theorem dX0_spread_76 : decode cX0_spread 76 = .ok (.invokevirtual 61, 3) := by decide +kernel
theorem dX0_spread_79 : decode cX0_spread 79 = .ok (.iinc 1 1, 3) := by decide +kernel
theorem dX0_spread_82 : decode cX0_spread 82 = .ok (.goto (-70), 3) := by decide +kernel
theorem dX0_spread_85 : decode cX0_spread 85 = .ok (.return_, 1) := by decide +kernel
set_option maxRecDepth 200000 in
theorem ggX0_reach_X0_isDot : GoodIn wsX0_reach wsX0_isDot := goodIn_r _ [7] rfl (by decide +kernel)
set_option maxRecDepth 200000 in
theorem gX0_reach_X0_isDot : GoodIn wsX0_reach (va_wsS RX0 54 yX0_isDot wsX0_isDot) := goodIn_app (goodIn_of _ (by decide +kernel)) ggX0_reach_X0_isDot
theorem dX0_reach_0 : decode cX0_reach 0 = .ok (.iload_n 1, 1) := by decide +kernel
theorem dX0_reach_1 : decode cX0_reach 1 = .ok (.invokestatic 54, 3) := by decide +kernel
theorem dX0_reach_4 : decode cX0_reach 4 = .ok (.ifCond .eq 49, 3) := by decide +kernel
theorem dX0_reach_7 : decode cX0_reach 7 = .ok (.aload_n 0, 1) := by decide +kernel
theorem dX0_reach_8 : decode cX0_reach 8 = .ok (.getfield 9, 3) := by decide +kernel
theorem dX0_reach_11 : decode cX0_reach 11 = .ok (.iload_n 1, 1) := by decide +kernel
theorem dX0_reach_12 : decode cX0_reach 12 = .ok (.iaload, 1) := by decide +kernel
theorem dX0_reach_13 : decode cX0_reach 13 = .ok (.ifCond .ne 40, 3) := by decide +kernel
theorem dX0_reach_16 : decode cX0_reach 16 = .ok (.aload_n 0, 1) := by decide +kernel
theorem dX0_reach_17 : decode cX0_reach 17 = .ok (.getfield 57, 3) := by decide +kernel
theorem dX0_reach_20 : decode cX0_reach 20 = .ok (.sipush 3456, 3) := by decide +kernel
theorem dX0_reach_23 : decode cX0_reach 23 = .ok (.if_icmp .ge 30, 3) := by decide +kernel
theorem dX0_reach_26 : decode cX0_reach 26 = .ok (.aload_n 0, 1) := by decide +kernel
theorem dX0_reach_27 : decode cX0_reach 27 = .ok (.getfield 9, 3) := by decide +kernel
theorem dX0_reach_30 : decode cX0_reach 30 = .ok (.iload_n 1, 1) := by decide +kernel
theorem dX0_reach_31 : decode cX0_reach 31 = .ok (.iconst 2, 1) := by decide +kernel
theorem dX0_reach_32 : decode cX0_reach 32 = .ok (.iastore, 1) := by decide +kernel
theorem dX0_reach_33 : decode cX0_reach 33 = .ok (.aload_n 0, 1) := by decide +kernel
theorem dX0_reach_34 : decode cX0_reach 34 = .ok (.getfield 13, 3) := by decide +kernel
theorem dX0_reach_37 : decode cX0_reach 37 = .ok (.aload_n 0, 1) := by decide +kernel
theorem dX0_reach_38 : decode cX0_reach 38 = .ok (.getfield 57, 3) := by decide +kernel
theorem dX0_reach_41 : decode cX0_reach 41 = .ok (.iload_n 1, 1) := by decide +kernel
theorem dX0_reach_42 : decode cX0_reach 42 = .ok (.iastore, 1) := by decide +kernel
theorem dX0_reach_43 : decode cX0_reach 43 = .ok (.aload_n 0, 1) := by decide +kernel
theorem dX0_reach_44 : decode cX0_reach 44 = .ok (.dup, 1) := by decide +kernel
theorem dX0_reach_45 : decode cX0_reach 45 = .ok (.getfield 57, 3) := by decide +kernel
theorem dX0_reach_48 : decode cX0_reach 48 = .ok (.iconst 1, 1) := by decide +kernel
theorem dX0_reach_49 : decode cX0_reach 49 = .ok (.iadd, 1) := by decide +kernel
theorem dX0_reach_50 : decode cX0_reach 50 = .ok (.putfield 57, 3) := by decide +kernel
theorem dX0_reach_53 : decode cX0_reach 53 = .ok (.return_, 1) := by decide +kernel
set_option maxRecDepth 200000 in
theorem ggX0_isLeftOut_X0_dotOf : GoodIn wsX0_isLeftOut wsX0_dotOf := goodIn_r _ [5, 6, 7, 8, 9, 10] rfl (by decide +kernel)
set_option maxRecDepth 200000 in
theorem gX0_isLeftOut_X0_dotOf : GoodIn wsX0_isLeftOut (va_wsS RX0 34 yX0_dotOf wsX0_dotOf) := goodIn_app (goodIn_of _ (by decide +kernel)) ggX0_isLeftOut_X0_dotOf
set_option maxRecDepth 200000 in
theorem ggX0_isLeftOut_X0_isDot : GoodIn wsX0_isLeftOut wsX0_isDot := goodIn_r _ [13] rfl (by decide +kernel)
set_option maxRecDepth 200000 in
theorem gX0_isLeftOut_X0_isDot : GoodIn wsX0_isLeftOut (va_wsS RX0 54 yX0_isDot wsX0_isDot) := goodIn_app (goodIn_of _ (by decide +kernel)) ggX0_isLeftOut_X0_isDot
theorem dX0_isLeftOut_0 : decode cX0_isLeftOut 0 = .ok (.iload_n 1, 1) := by decide +kernel
theorem dX0_isLeftOut_1 : decode cX0_isLeftOut 1 = .ok (.invokestatic 34, 3) := by decide +kernel
theorem dX0_isLeftOut_4 : decode cX0_isLeftOut 4 = .ok (.istore_n 2, 1) := by decide +kernel
theorem dX0_isLeftOut_5 : decode cX0_isLeftOut 5 = .ok (.iload_n 2, 1) := by decide +kernel
theorem dX0_isLeftOut_6 : decode cX0_isLeftOut 6 = .ok (.invokestatic 54, 3) := by decide +kernel
theorem dX0_isLeftOut_9 : decode cX0_isLeftOut 9 = .ok (.ifCond .eq 16, 3) := by decide +kernel
theorem dX0_isLeftOut_12 : decode cX0_isLeftOut 12 = .ok (.aload_n 0, 1) := by decide +kernel
theorem dX0_isLeftOut_13 : decode cX0_isLeftOut 13 = .ok (.getfield 9, 3) := by decide +kernel
theorem dX0_isLeftOut_16 : decode cX0_isLeftOut 16 = .ok (.iload_n 2, 1) := by decide +kernel
theorem dX0_isLeftOut_17 : decode cX0_isLeftOut 17 = .ok (.iaload, 1) := by decide +kernel
theorem dX0_isLeftOut_18 : decode cX0_isLeftOut 18 = .ok (.ifCond .ne 7, 3) := by decide +kernel
theorem dX0_isLeftOut_21 : decode cX0_isLeftOut 21 = .ok (.iconst 1, 1) := by decide +kernel
theorem dX0_isLeftOut_22 : decode cX0_isLeftOut 22 = .ok (.goto 4, 3) := by decide +kernel
theorem dX0_isLeftOut_25 : decode cX0_isLeftOut 25 = .ok (.iconst 0, 1) := by decide +kernel
theorem dX0_isLeftOut_26 : decode cX0_isLeftOut 26 = .ok (.ireturn, 1) := by decide +kernel
set_option maxRecDepth 200000 in
theorem ggX1_init_X4_init : GoodIn wsX1_init wsX4_init := goodIn_r _ [11, 12, 2, 3, 13, 14, 15, 16, 17, 18, 24, 25, 26, 27, 28, 29] rfl (by decide +kernel)
set_option maxRecDepth 200000 in
theorem gX1_init_X4_init : GoodIn wsX1_init (wsX4_init) := ggX1_init_X4_init
theorem dX1_init_0 : decode cX1_init 0 = .ok (.aload_n 0, 1) := by decide +kernel
theorem dX1_init_1 : decode cX1_init 1 = .ok (.invokespecial 1, 3) := by decide +kernel
theorem dX1_init_4 : decode cX1_init 4 = .ok (.aload_n 0, 1) := by decide +kernel
theorem dX1_init_5 : decode cX1_init 5 = .ok (.iconst 5, 1) := by decide +kernel
theorem dX1_init_6 : decode cX1_init 6 = .ok (.anewarray 9, 3) := by decide +kernel
theorem dX1_init_9 : decode cX1_init 9 = .ok (.putfield 11, 3) := by decide +kernel
theorem dX1_init_12 : decode cX1_init 12 = .ok (.iconst 0, 1) := by decide +kernel
theorem dX1_init_13 : decode cX1_init 13 = .ok (.istore_n 1, 1) := by decide +kernel
theorem dX1_init_14 : decode cX1_init 14 = .ok (.iload_n 1, 1) := by decide +kernel
theorem dX1_init_15 : decode cX1_init 15 = .ok (.iconst 5, 1) := by decide +kernel
theorem dX1_init_16 : decode cX1_init 16 = .ok (.if_icmp .ge 22, 3) := by decide +kernel
theorem dX1_init_19 : decode cX1_init 19 = .ok (.aload_n 0, 1) := by decide +kernel
theorem dX1_init_20 : decode cX1_init 20 = .ok (.getfield 11, 3) := by decide +kernel
theorem dX1_init_23 : decode cX1_init 23 = .ok (.iload_n 1, 1) := by decide +kernel
theorem dX1_init_24 : decode cX1_init 24 = .ok (.new 9, 3) := by decide +kernel
theorem dX1_init_27 : decode cX1_init 27 = .ok (.dup, 1) := by decide +kernel
theorem dX1_init_28 : decode cX1_init 28 = .ok (.invokespecial 15, 3) := by decide +kernel
theorem dX1_init_31 : decode cX1_init 31 = .ok (.aastore, 1) := by decide +kernel
theorem dX1_init_32 : decode cX1_init 32 = .ok (.iinc 1 1, 3) := by decide +kernel
theorem dX1_init_35 : decode cX1_init 35 = .ok (.goto (-21), 3) := by decide +kernel
theorem dX1_init_38 : decode cX1_init 38 = .ok (.aload_n 0, 1) := by decide +kernel
theorem dX1_init_39 : decode cX1_init 39 = .ok (.new 9, 3) := by decide +kernel
theorem dX1_init_42 : decode cX1_init 42 = .ok (.dup, 1) := by decide +kernel
theorem dX1_init_43 : decode cX1_init 43 = .ok (.invokespecial 15, 3) := by decide +kernel
theorem dX1_init_46 : decode cX1_init 46 = .ok (.putfield 16, 3) := by decide +kernel
theorem dX1_init_49 : decode cX1_init 49 = .ok (.return_, 1) := by decide +kernel
theorem dX1_size_0 : decode cX1_size 0 = .ok (.aload_n 0, 1) := by decide +kernel
theorem dX1_size_1 : decode cX1_size 1 = .ok (.getfield 20, 3) := by decide +kernel
theorem dX1_size_4 : decode cX1_size 4 = .ok (.ireturn, 1) := by decide +kernel
set_option maxRecDepth 200000 in
theorem ggX1_save_X1_savedAt : GoodIn wsX1_save wsX1_savedAt := goodIn_r _ [7, 8, 2, 27, 28, 29, 30, 31] rfl (by decide +kernel)
set_option maxRecDepth 200000 in
theorem gX1_save_X1_savedAt : GoodIn wsX1_save (wsV RX1 27 RX1 yX1_savedAt wsX1_savedAt) := goodIn_app (goodIn_of _ (by decide +kernel)) ggX1_save_X1_savedAt
set_option maxRecDepth 200000 in
theorem ggX1_save_X1_copy : GoodIn wsX1_save wsX1_copy := goodIn_r _ [11, 12, 13, 14, 15, 16, 17, 18, 19, 20, 21, 22, 23, 24, 25, 26, 32, 33, 34, 35, 36, 37] rfl (by decide +kernel)
set_option maxRecDepth 200000 in
theorem gX1_save_X1_copy : GoodIn wsX1_save (va_wsS RX1 31 yX1_copy wsX1_copy) := goodIn_app (goodIn_of _ (by decide +kernel)) ggX1_save_X1_copy
theorem dX1_save_0 : decode cX1_save 0 = .ok (.aload_n 0, 1) := by decide +kernel
theorem dX1_save_1 : decode cX1_save 1 = .ok (.getfield 20, 3) := by decide +kernel
theorem dX1_save_4 : decode cX1_save 4 = .ok (.iconst 5, 1) := by decide +kernel
theorem dX1_save_5 : decode cX1_save 5 = .ok (.if_icmp .ne 25, 3) := by decide +kernel
theorem dX1_save_8 : decode cX1_save 8 = .ok (.aload_n 0, 1) := by decide +kernel
theorem dX1_save_9 : decode cX1_save 9 = .ok (.aload_n 0, 1) := by decide +kernel
theorem dX1_save_10 : decode cX1_save 10 = .ok (.getfield 24, 3) := by decide +kernel
theorem dX1_save_13 : decode cX1_save 13 = .ok (.iconst 1, 1) := by decide +kernel
theorem dX1_save_14 : decode cX1_save 14 = .ok (.iadd, 1) := by decide +kernel
theorem dX1_save_15 : decode cX1_save 15 = .ok (.iconst 5, 1) := by decide +kernel
theorem dX1_save_16 : decode cX1_save 16 = .ok (.irem, 1) := by decide +kernel
theorem dX1_save_17 : decode cX1_save 17 = .ok (.putfield 24, 3) := by decide +kernel
theorem dX1_save_20 : decode cX1_save 20 = .ok (.aload_n 0, 1) := by decide +kernel
theorem dX1_save_21 : decode cX1_save 21 = .ok (.dup, 1) := by decide +kernel
theorem dX1_save_22 : decode cX1_save 22 = .ok (.getfield 20, 3) := by decide +kernel
theorem dX1_save_25 : decode cX1_save 25 = .ok (.iconst 1, 1) := by decide +kernel
theorem dX1_save_26 : decode cX1_save 26 = .ok (.isub, 1) := by decide +kernel
theorem dX1_save_27 : decode cX1_save 27 = .ok (.putfield 20, 3) := by decide +kernel
theorem dX1_save_30 : decode cX1_save 30 = .ok (.aload_n 1, 1) := by decide +kernel
theorem dX1_save_31 : decode cX1_save 31 = .ok (.aload_n 0, 1) := by decide +kernel
theorem dX1_save_32 : decode cX1_save 32 = .ok (.aload_n 0, 1) := by decide +kernel
theorem dX1_save_33 : decode cX1_save 33 = .ok (.getfield 20, 3) := by decide +kernel
theorem dX1_save_36 : decode cX1_save 36 = .ok (.invokevirtual 27, 3) := by decide +kernel
theorem dX1_save_39 : decode cX1_save 39 = .ok (.invokestatic 31, 3) := by decide +kernel
theorem dX1_save_42 : decode cX1_save 42 = .ok (.aload_n 0, 1) := by decide +kernel
theorem dX1_save_43 : decode cX1_save 43 = .ok (.dup, 1) := by decide +kernel
theorem dX1_save_44 : decode cX1_save 44 = .ok (.getfield 20, 3) := by decide +kernel
theorem dX1_save_47 : decode cX1_save 47 = .ok (.iconst 1, 1) := by decide +kernel
theorem dX1_save_48 : decode cX1_save 48 = .ok (.iadd, 1) := by decide +kernel
theorem dX1_save_49 : decode cX1_save 49 = .ok (.putfield 20, 3) := by decide +kernel
theorem dX1_save_52 : decode cX1_save 52 = .ok (.return_, 1) := by decide +kernel
set_option maxRecDepth 200000 in
theorem ggX1_giveBack_X1_savedAt : GoodIn wsX1_giveBack wsX1_savedAt := goodIn_r _ [6, 7, 8, 27, 28, 29, 30, 31] rfl (by decide +kernel)
set_option maxRecDepth 200000 in
theorem gX1_giveBack_X1_savedAt : GoodIn wsX1_giveBack (wsV RX1 27 RX1 yX1_savedAt wsX1_savedAt) := goodIn_app (goodIn_of _ (by decide +kernel)) ggX1_giveBack_X1_savedAt
set_option maxRecDepth 200000 in
theorem ggX1_giveBack_X1_copy : GoodIn wsX1_giveBack wsX1_copy := goodIn_r _ [11, 12, 13, 14, 15, 16, 17, 18, 19, 20, 21, 22, 23, 24, 25, 26, 32, 33, 34, 35, 36, 37] rfl (by decide +kernel)
set_option maxRecDepth 200000 in
theorem gX1_giveBack_X1_copy : GoodIn wsX1_giveBack (va_wsS RX1 31 yX1_copy wsX1_copy) := goodIn_app (goodIn_of _ (by decide +kernel)) ggX1_giveBack_X1_copy
theorem dX1_giveBack_0 : decode cX1_giveBack 0 = .ok (.aload_n 0, 1) := by decide +kernel
theorem dX1_giveBack_1 : decode cX1_giveBack 1 = .ok (.getfield 20, 3) := by decide +kernel
theorem dX1_giveBack_4 : decode cX1_giveBack 4 = .ok (.ifCond .le 25, 3) := by decide +kernel
theorem dX1_giveBack_7 : decode cX1_giveBack 7 = .ok (.aload_n 0, 1) := by decide +kernel
theorem dX1_giveBack_8 : decode cX1_giveBack 8 = .ok (.dup, 1) := by decide +kernel
theorem dX1_giveBack_9 : decode cX1_giveBack 9 = .ok (.getfield 20, 3) := by decide +kernel
theorem dX1_giveBack_12 : decode cX1_giveBack 12 = .ok (.iconst 1, 1) := by decide +kernel
theorem dX1_giveBack_13 : decode cX1_giveBack 13 = .ok (.isub, 1) := by decide +kernel
theorem dX1_giveBack_14 : decode cX1_giveBack 14 = .ok (.putfield 20, 3) := by decide +kernel
theorem dX1_giveBack_17 : decode cX1_giveBack 17 = .ok (.aload_n 0, 1) := by decide +kernel
theorem dX1_giveBack_18 : decode cX1_giveBack 18 = .ok (.aload_n 0, 1) := by decide +kernel
theorem dX1_giveBack_19 : decode cX1_giveBack 19 = .ok (.getfield 20, 3) := by decide +kernel
theorem dX1_giveBack_22 : decode cX1_giveBack 22 = .ok (.invokevirtual 27, 3) := by decide +kernel
theorem dX1_giveBack_25 : decode cX1_giveBack 25 = .ok (.aload_n 1, 1) := by decide +kernel
theorem dX1_giveBack_26 : decode cX1_giveBack 26 = .ok (.invokestatic 31, 3) := by decide +kernel
theorem dX1_giveBack_29 : decode cX1_giveBack 29 = .ok (.return_, 1) := by decide +kernel
theorem dX1_savedAt_0 : decode cX1_savedAt 0 = .ok (.aload_n 0, 1) := by decide +kernel
theorem dX1_savedAt_1 : decode cX1_savedAt 1 = .ok (.getfield 11, 3) := by decide +kernel
theorem dX1_savedAt_4 : decode cX1_savedAt 4 = .ok (.aload_n 0, 1) := by decide +kernel
theorem dX1_savedAt_5 : decode cX1_savedAt 5 = .ok (.getfield 24, 3) := by decide +kernel
theorem dX1_savedAt_8 : decode cX1_savedAt 8 = .ok (.iload_n 1, 1) := by decide +kernel
theorem dX1_savedAt_9 : decode cX1_savedAt 9 = .ok (.iadd, 1) := by decide +kernel
theorem dX1_savedAt_10 : decode cX1_savedAt 10 = .ok (.iconst 5, 1) := by decide +kernel
theorem dX1_savedAt_11 : decode cX1_savedAt 11 = .ok (.irem, 1) := by decide +kernel
theorem dX1_savedAt_12 : decode cX1_savedAt 12 = .ok (.aaload, 1) := by decide +kernel
theorem dX1_savedAt_13 : decode cX1_savedAt 13 = .ok (.areturn, 1) := by decide +kernel
set_option maxRecDepth 200000 in
theorem ggX1_copy_X4_copyFrom : GoodIn wsX1_copy wsX4_copyFrom := goodIn_r _ [5, 6, 7, 8, 9, 10, 11, 12, 13, 14, 15, 16, 17, 18, 19, 20, 21] rfl (by decide +kernel)
set_option maxRecDepth 200000 in
theorem gX1_copy_X4_copyFrom : GoodIn wsX1_copy (wsV RX1 35 RX4 yX4_copyFrom wsX4_copyFrom) := goodIn_app (goodIn_of _ (by decide +kernel)) ggX1_copy_X4_copyFrom
theorem dX1_copy_0 : decode cX1_copy 0 = .ok (.aload_n 0, 1) := by decide +kernel
theorem dX1_copy_1 : decode cX1_copy 1 = .ok (.ifnull 12, 3) := by decide +kernel
theorem dX1_copy_4 : decode cX1_copy 4 = .ok (.aload_n 1, 1) := by decide +kernel
theorem dX1_copy_5 : decode cX1_copy 5 = .ok (.ifnull 8, 3) := by decide +kernel
theorem dX1_copy_8 : decode cX1_copy 8 = .ok (.aload_n 1, 1) := by decide +kernel
theorem dX1_copy_9 : decode cX1_copy 9 = .ok (.aload_n 0, 1) := by decide +kernel
theorem dX1_copy_10 : decode cX1_copy 10 = .ok (.invokevirtual 35, 3) := by decide +kernel
theorem dX1_copy_13 : decode cX1_copy 13 = .ok (.return_, 1) := by decide +kernel
theorem dX1_hasSnapshot_0 : decode cX1_hasSnapshot 0 = .ok (.aload_n 0, 1) := by decide +kernel
theorem dX1_hasSnapshot_1 : decode cX1_hasSnapshot 1 = .ok (.getfield 39, 3) := by decide +kernel
theorem dX1_hasSnapshot_4 : decode cX1_hasSnapshot 4 = .ok (.ireturn, 1) := by decide +kernel
set_option maxRecDepth 200000 in
theorem ggX1_keepSnapshot_X1_copy : GoodIn wsX1_keepSnapshot wsX1_copy := goodIn_r _ [6, 7, 8, 9, 10, 11, 12, 13, 14, 15, 16, 17, 18, 19, 20, 21, 27, 28, 29, 30, 31, 32] rfl (by decide +kernel)
set_option maxRecDepth 200000 in
theorem gX1_keepSnapshot_X1_copy : GoodIn wsX1_keepSnapshot (va_wsS RX1 31 yX1_copy wsX1_copy) := goodIn_app (goodIn_of _ (by decide +kernel)) ggX1_keepSnapshot_X1_copy
theorem dX1_keepSnapshot_0 : decode cX1_keepSnapshot 0 = .ok (.aload_n 1, 1) := by decide +kernel
theorem dX1_keepSnapshot_1 : decode cX1_keepSnapshot 1 = .ok (.aload_n 0, 1) := by decide +kernel
theorem dX1_keepSnapshot_2 : decode cX1_keepSnapshot 2 = .ok (.getfield 16, 3) := by decide +kernel
theorem dX1_keepSnapshot_5 : decode cX1_keepSnapshot 5 = .ok (.invokestatic 31, 3) := by decide +kernel
theorem dX1_keepSnapshot_8 : decode cX1_keepSnapshot 8 = .ok (.aload_n 0, 1) := by decide +kernel
theorem dX1_keepSnapshot_9 : decode cX1_keepSnapshot 9 = .ok (.iconst 1, 1) := by decide +kernel
theorem dX1_keepSnapshot_10 : decode cX1_keepSnapshot 10 = .ok (.putfield 39, 3) := by decide +kernel
theorem dX1_keepSnapshot_13 : decode cX1_keepSnapshot 13 = .ok (.return_, 1) := by decide +kernel
set_option maxRecDepth 200000 in
theorem ggX1_giveSnapshot_X1_copy : GoodIn wsX1_giveSnapshot wsX1_copy := goodIn_r _ [6, 7, 8, 9, 10, 11, 12, 13, 14, 15, 16, 17, 18, 19, 20, 21, 27, 28, 29, 30, 31, 32] rfl (by decide +kernel)
set_option maxRecDepth 200000 in
theorem gX1_giveSnapshot_X1_copy : GoodIn wsX1_giveSnapshot (va_wsS RX1 31 yX1_copy wsX1_copy) := goodIn_app (goodIn_of _ (by decide +kernel)) ggX1_giveSnapshot_X1_copy
theorem dX1_giveSnapshot_0 : decode cX1_giveSnapshot 0 = .ok (.aload_n 0, 1) := by decide +kernel
theorem dX1_giveSnapshot_1 : decode cX1_giveSnapshot 1 = .ok (.getfield 39, 3) := by decide +kernel
theorem dX1_giveSnapshot_4 : decode cX1_giveSnapshot 4 = .ok (.ifCond .eq 11, 3) := by decide +kernel
theorem dX1_giveSnapshot_7 : decode cX1_giveSnapshot 7 = .ok (.aload_n 0, 1) := by decide +kernel
theorem dX1_giveSnapshot_8 : decode cX1_giveSnapshot 8 = .ok (.getfield 16, 3) := by decide +kernel
theorem dX1_giveSnapshot_11 : decode cX1_giveSnapshot 11 = .ok (.aload_n 1, 1) := by decide +kernel
theorem dX1_giveSnapshot_12 : decode cX1_giveSnapshot 12 = .ok (.invokestatic 31, 3) := by decide +kernel
theorem dX1_giveSnapshot_15 : decode cX1_giveSnapshot 15 = .ok (.return_, 1) := by decide +kernel
set_option maxRecDepth 200000 in
theorem ggX2_lastNumber_X4_sizeIn : GoodIn wsX2_lastNumber wsX4_sizeIn := goodIn_r _ [5, 6, 7, 8, 9, 10, 11, 12, 13] rfl (by decide +kernel)
set_option maxRecDepth 200000 in
theorem gX2_lastNumber_X4_sizeIn : GoodIn wsX2_lastNumber (wsV RX2 9 RX4 yX4_sizeIn wsX4_sizeIn) := goodIn_app (goodIn_of _ (by decide +kernel)) ggX2_lastNumber_X4_sizeIn
theorem dX2_lastNumber_0 : decode cX2_lastNumber 0 = .ok (.iload_n 2, 1) := by decide +kernel
theorem dX2_lastNumber_1 : decode cX2_lastNumber 1 = .ok (.aload_n 0, 1) := by decide +kernel
theorem dX2_lastNumber_2 : decode cX2_lastNumber 2 = .ok (.iload_n 1, 1) := by decide +kernel
theorem dX2_lastNumber_3 : decode cX2_lastNumber 3 = .ok (.invokevirtual 9, 3) := by decide +kernel
theorem dX2_lastNumber_6 : decode cX2_lastNumber 6 = .ok (.iadd, 1) := by decide +kernel
theorem dX2_lastNumber_7 : decode cX2_lastNumber 7 = .ok (.iconst 1, 1) := by decide +kernel
theorem dX2_lastNumber_8 : decode cX2_lastNumber 8 = .ok (.isub, 1) := by decide +kernel
theorem dX2_lastNumber_9 : decode cX2_lastNumber 9 = .ok (.ireturn, 1) := by decide +kernel
set_option maxRecDepth 200000 in
theorem ggX2_isPlace_X4_stepCount : GoodIn wsX2_isPlace wsX4_stepCount := goodIn_r _ [5, 6, 7, 22, 23, 24, 25, 26, 27] rfl (by decide +kernel)
set_option maxRecDepth 200000 in
theorem gX2_isPlace_X4_stepCount : GoodIn wsX2_isPlace (wsV RX2 15 RX4 yX4_stepCount wsX4_stepCount) := goodIn_app (goodIn_of _ (by decide +kernel)) ggX2_isPlace_X4_stepCount
set_option maxRecDepth 200000 in
theorem ggX2_isPlace_X4_isRing : GoodIn wsX2_isPlace wsX4_isRing := goodIn_r _ [11, 6, 7, 12, 22, 23, 24, 25, 26, 27] rfl (by decide +kernel)
set_option maxRecDepth 200000 in
theorem gX2_isPlace_X4_isRing : GoodIn wsX2_isPlace (wsV RX2 18 RX4 yX4_isRing wsX4_isRing) := goodIn_app (goodIn_of _ (by decide +kernel)) ggX2_isPlace_X4_isRing
set_option maxRecDepth 200000 in
theorem ggX2_isPlace_X4_hasNumber : GoodIn wsX2_isPlace wsX4_hasNumber := goodIn_r _ [16, 6, 7, 22, 23, 24, 25, 26, 27] rfl (by decide +kernel)
set_option maxRecDepth 200000 in
theorem gX2_isPlace_X4_hasNumber : GoodIn wsX2_isPlace (wsV RX2 22 RX4 yX4_hasNumber wsX4_hasNumber) := goodIn_app (goodIn_of _ (by decide +kernel)) ggX2_isPlace_X4_hasNumber
set_option maxRecDepth 200000 in
theorem ggX2_isPlace_X4_sizeIn : GoodIn wsX2_isPlace wsX4_sizeIn := goodIn_r _ [20, 6, 21, 22, 23, 24, 25, 26, 27] rfl (by decide +kernel)
set_option maxRecDepth 200000 in
theorem gX2_isPlace_X4_sizeIn : GoodIn wsX2_isPlace (wsV RX2 9 RX4 yX4_sizeIn wsX4_sizeIn) := goodIn_app (goodIn_of _ (by decide +kernel)) ggX2_isPlace_X4_sizeIn
theorem dX2_isPlace_0 : decode cX2_isPlace 0 = .ok (.aload_n 0, 1) := by decide +kernel
theorem dX2_isPlace_1 : decode cX2_isPlace 1 = .ok (.iload_n 1, 1) := by decide +kernel
theorem dX2_isPlace_2 : decode cX2_isPlace 2 = .ok (.invokevirtual 15, 3) := by decide +kernel
theorem dX2_isPlace_5 : decode cX2_isPlace 5 = .ok (.iconst 1, 1) := by decide +kernel
theorem dX2_isPlace_6 : decode cX2_isPlace 6 = .ok (.iadd, 1) := by decide +kernel
theorem dX2_isPlace_7 : decode cX2_isPlace 7 = .ok (.istore_n 3, 1) := by decide +kernel
theorem dX2_isPlace_8 : decode cX2_isPlace 8 = .ok (.aload_n 0, 1) := by decide +kernel
theorem dX2_isPlace_9 : decode cX2_isPlace 9 = .ok (.iload_n 1, 1) := by decide +kernel
theorem dX2_isPlace_10 : decode cX2_isPlace 10 = .ok (.invokevirtual 18, 3) := by decide +kernel
theorem dX2_isPlace_13 : decode cX2_isPlace 13 = .ok (.ifCond .eq 6, 3) := by decide +kernel
theorem dX2_isPlace_16 : decode cX2_isPlace 16 = .ok (.iinc 3 (-1), 3) := by decide +kernel
theorem dX2_isPlace_19 : decode cX2_isPlace 19 = .ok (.aload_n 0, 1) := by decide +kernel
theorem dX2_isPlace_20 : decode cX2_isPlace 20 = .ok (.iload_n 1, 1) := by decide +kernel
theorem dX2_isPlace_21 : decode cX2_isPlace 21 = .ok (.iload_n 2, 1) := by decide +kernel
theorem dX2_isPlace_22 : decode cX2_isPlace 22 = .ok (.invokevirtual 22, 3) := by decide +kernel
theorem dX2_isPlace_25 : decode cX2_isPlace 25 = .ok (.ifCond .eq 18, 3) := by decide +kernel
theorem dX2_isPlace_28 : decode cX2_isPlace 28 = .ok (.iload_n 2, 1) := by decide +kernel
theorem dX2_isPlace_29 : decode cX2_isPlace 29 = .ok (.aload_n 0, 1) := by decide +kernel
theorem dX2_isPlace_30 : decode cX2_isPlace 30 = .ok (.iload_n 1, 1) := by decide +kernel
theorem dX2_isPlace_31 : decode cX2_isPlace 31 = .ok (.invokevirtual 9, 3) := by decide +kernel
theorem dX2_isPlace_34 : decode cX2_isPlace 34 = .ok (.iadd, 1) := by decide +kernel
theorem dX2_isPlace_35 : decode cX2_isPlace 35 = .ok (.iload_n 3, 1) := by decide +kernel
theorem dX2_isPlace_36 : decode cX2_isPlace 36 = .ok (.if_icmp .gt 7, 3) := by decide +kernel
theorem dX2_isPlace_39 : decode cX2_isPlace 39 = .ok (.iconst 1, 1) := by decide +kernel
theorem dX2_isPlace_40 : decode cX2_isPlace 40 = .ok (.goto 4, 3) := by decide +kernel
theorem dX2_isPlace_43 : decode cX2_isPlace 43 = .ok (.iconst 0, 1) := by decide +kernel
theorem dX2_isPlace_44 : decode cX2_isPlace 44 = .ok (.ireturn, 1) := by decide +kernel
set_option maxRecDepth 200000 in
theorem ggX2_bendOfPlace_X2_isPlace : GoodIn wsX2_bendOfPlace wsX2_isPlace := goodIn_r _ [4, 5, 6, 7, 8, 9, 10, 11, 12, 13, 14, 15, 16, 17, 18, 19, 20, 21, 22, 23, 24, 25, 46, 47, 48, 49, 50, 51] rfl (by decide +kernel)
set_option maxRecDepth 200000 in
theorem gX2_bendOfPlace_X2_isPlace : GoodIn wsX2_bendOfPlace (va_wsS RX2 26 yX2_isPlace wsX2_isPlace) := goodIn_app (goodIn_of _ (by decide +kernel)) ggX2_bendOfPlace_X2_isPlace
set_option maxRecDepth 200000 in
theorem ggX2_bendOfPlace_X2_lastNumber : GoodIn wsX2_bendOfPlace wsX2_lastNumber := goodIn_r _ [28, 21, 22, 23, 8, 24, 10, 25, 46, 47, 48, 49, 50, 51] rfl (by decide +kernel)
set_option maxRecDepth 200000 in
theorem gX2_bendOfPlace_X2_lastNumber : GoodIn wsX2_bendOfPlace (va_wsS RX2 32 yX2_lastNumber wsX2_lastNumber) := goodIn_app (goodIn_of _ (by decide +kernel)) ggX2_bendOfPlace_X2_lastNumber
set_option maxRecDepth 200000 in
theorem ggX2_bendOfPlace_X4_hasNumber : GoodIn wsX2_bendOfPlace wsX4_hasNumber := goodIn_r _ [20, 10, 11, 46, 47, 48, 49, 50, 51] rfl (by decide +kernel)
set_option maxRecDepth 200000 in
theorem gX2_bendOfPlace_X4_hasNumber : GoodIn wsX2_bendOfPlace (wsV RX2 22 RX4 yX4_hasNumber wsX4_hasNumber) := goodIn_app (goodIn_of _ (by decide +kernel)) ggX2_bendOfPlace_X4_hasNumber
set_option maxRecDepth 200000 in
theorem ggX2_bendOfPlace_X4_bendThere : GoodIn wsX2_bendOfPlace wsX4_bendThere := goodIn_r _ [32, 33, 34, 35, 36, 37, 38, 39, 40, 41, 42, 8, 43, 10, 11, 16, 44, 13, 14, 15, 45, 6, 7, 9, 46, 47, 48, 49, 50, 51] rfl (by decide +kernel)
set_option maxRecDepth 200000 in
theorem gX2_bendOfPlace_X4_bendThere : GoodIn wsX2_bendOfPlace (wsV RX2 36 RX4 yX4_bendThere wsX4_bendThere) := goodIn_app (goodIn_of _ (by decide +kernel)) ggX2_bendOfPlace_X4_bendThere
theorem dX2_bendOfPlace_0 : decode cX2_bendOfPlace 0 = .ok (.aload_n 0, 1) := by decide +kernel
theorem dX2_bendOfPlace_1 : decode cX2_bendOfPlace 1 = .ok (.iload_n 1, 1) := by decide +kernel
theorem dX2_bendOfPlace_2 : decode cX2_bendOfPlace 2 = .ok (.iload_n 2, 1) := by decide +kernel
theorem dX2_bendOfPlace_3 : decode cX2_bendOfPlace 3 = .ok (.invokestatic 26, 3) := by decide +kernel
theorem dX2_bendOfPlace_6 : decode cX2_bendOfPlace 6 = .ok (.ifCond .ne 5, 3) := by decide +kernel
theorem dX2_bendOfPlace_9 : decode cX2_bendOfPlace 9 = .ok (.iconst (-1), 1) := by decide +kernel
theorem dX2_bendOfPlace_10 : decode cX2_bendOfPlace 10 = .ok (.ireturn, 1) := by decide +kernel
theorem dX2_bendOfPlace_11 : decode cX2_bendOfPlace 11 = .ok (.aload_n 0, 1) := by decide +kernel
theorem dX2_bendOfPlace_12 : decode cX2_bendOfPlace 12 = .ok (.iload_n 1, 1) := by decide +kernel
theorem dX2_bendOfPlace_13 : decode cX2_bendOfPlace 13 = .ok (.iload_n 2, 1) := by decide +kernel
theorem dX2_bendOfPlace_14 : decode cX2_bendOfPlace 14 = .ok (.invokestatic 32, 3) := by decide +kernel
theorem dX2_bendOfPlace_17 : decode cX2_bendOfPlace 17 = .ok (.iconst 1, 1) := by decide +kernel
theorem dX2_bendOfPlace_18 : decode cX2_bendOfPlace 18 = .ok (.iadd, 1) := by decide +kernel
theorem dX2_bendOfPlace_19 : decode cX2_bendOfPlace 19 = .ok (.istore_n 3, 1) := by decide +kernel
theorem dX2_bendOfPlace_20 : decode cX2_bendOfPlace 20 = .ok (.iconst 0, 1) := by decide +kernel
theorem dX2_bendOfPlace_21 : decode cX2_bendOfPlace 21 = .ok (.istore 4, 2) := by decide +kernel
theorem dX2_bendOfPlace_23 : decode cX2_bendOfPlace 23 = .ok (.iload_n 2, 1) := by decide +kernel
theorem dX2_bendOfPlace_24 : decode cX2_bendOfPlace 24 = .ok (.iconst 1, 1) := by decide +kernel
theorem dX2_bendOfPlace_25 : decode cX2_bendOfPlace 25 = .ok (.isub, 1) := by decide +kernel
theorem dX2_bendOfPlace_26 : decode cX2_bendOfPlace 26 = .ok (.istore 5, 2) := by decide +kernel
theorem dX2_bendOfPlace_28 : decode cX2_bendOfPlace 28 = .ok (.iload 5, 2) := by decide +kernel
theorem dX2_bendOfPlace_30 : decode cX2_bendOfPlace 30 = .ok (.iload_n 3, 1) := by decide +kernel
theorem dX2_bendOfPlace_31 : decode cX2_bendOfPlace 31 = .ok (.if_icmp .gt 31, 3) := by decide +kernel
theorem dX2_bendOfPlace_34 : decode cX2_bendOfPlace 34 = .ok (.aload_n 0, 1) := by decide +kernel
theorem dX2_bendOfPlace_35 : decode cX2_bendOfPlace 35 = .ok (.iload_n 1, 1) := by decide +kernel
theorem dX2_bendOfPlace_36 : decode cX2_bendOfPlace 36 = .ok (.iload 5, 2) := by decide +kernel
theorem dX2_bendOfPlace_38 : decode cX2_bendOfPlace 38 = .ok (.invokevirtual 22, 3) := by decide +kernel
theorem dX2_bendOfPlace_41 : decode cX2_bendOfPlace 41 = .ok (.ifCond .eq 15, 3) := by decide +kernel
theorem dX2_bendOfPlace_44 : decode cX2_bendOfPlace 44 = .ok (.iload 4, 2) := by decide +kernel
theorem dX2_bendOfPlace_46 : decode cX2_bendOfPlace 46 = .ok (.aload_n 0, 1) := by decide +kernel
theorem dX2_bendOfPlace_47 : decode cX2_bendOfPlace 47 = .ok (.iload_n 1, 1) := by decide +kernel
theorem dX2_bendOfPlace_48 : decode cX2_bendOfPlace 48 = .ok (.iload 5, 2) := by decide +kernel
theorem dX2_bendOfPlace_50 : decode cX2_bendOfPlace 50 = .ok (.invokevirtual 36, 3) := by decide +kernel
theorem dX2_bendOfPlace_53 : decode cX2_bendOfPlace 53 = .ok (.iadd, 1) := by decide +kernel
theorem dX2_bendOfPlace_54 : decode cX2_bendOfPlace 54 = .ok (.istore 4, 2) := by decide +kernel
theorem dX2_bendOfPlace_56 : decode cX2_bendOfPlace 56 = .ok (.iinc 5 1, 3) := by decide +kernel
theorem dX2_bendOfPlace_59 : decode cX2_bendOfPlace 59 = .ok (.goto (-31), 3) := by decide +kernel
theorem dX2_bendOfPlace_62 : decode cX2_bendOfPlace 62 = .ok (.iload 4, 2) := by decide +kernel
theorem dX2_bendOfPlace_64 : decode cX2_bendOfPlace 64 = .ok (.ireturn, 1) := by decide +kernel
set_option maxRecDepth 200000 in
theorem ggX2_goesLeft_X4_pointAt : GoodIn wsX2_goesLeft wsX4_pointAt := goodIn_r _ [5, 6, 7, 8, 21, 22, 23, 24, 25, 26] rfl (by decide +kernel)
set_option maxRecDepth 200000 in
theorem gX2_goesLeft_X4_pointAt : GoodIn wsX2_goesLeft (wsV RX2 40 RX4 yX4_pointAt wsX4_pointAt) := goodIn_app (goodIn_of _ (by decide +kernel)) ggX2_goesLeft_X4_pointAt
set_option maxRecDepth 200000 in
theorem ggX2_goesLeft_X2_lastNumber : GoodIn wsX2_goesLeft wsX2_lastNumber := goodIn_r _ [12, 13, 14, 15, 4, 16, 6, 17, 21, 22, 23, 24, 25, 26] rfl (by decide +kernel)
set_option maxRecDepth 200000 in
theorem gX2_goesLeft_X2_lastNumber : GoodIn wsX2_goesLeft (va_wsS RX2 32 yX2_lastNumber wsX2_lastNumber) := goodIn_app (goodIn_of _ (by decide +kernel)) ggX2_goesLeft_X2_lastNumber
set_option maxRecDepth 200000 in
theorem ggX2_goesLeft_X6_columnOf : GoodIn wsX2_goesLeft wsX6_columnOf := goodIn_r _ [20] rfl (by decide +kernel)
set_option maxRecDepth 200000 in
theorem gX2_goesLeft_X6_columnOf_n43 : GoodIn wsX2_goesLeft (wsX6_columnOf) := ggX2_goesLeft_X6_columnOf
theorem dX2_goesLeft_0 : decode cX2_goesLeft 0 = .ok (.aload_n 0, 1) := by decide +kernel
theorem dX2_goesLeft_1 : decode cX2_goesLeft 1 = .ok (.iload_n 1, 1) := by decide +kernel
theorem dX2_goesLeft_2 : decode cX2_goesLeft 2 = .ok (.iload_n 2, 1) := by decide +kernel
theorem dX2_goesLeft_3 : decode cX2_goesLeft 3 = .ok (.invokevirtual 40, 3) := by decide +kernel
theorem dX2_goesLeft_6 : decode cX2_goesLeft 6 = .ok (.istore_n 3, 1) := by decide +kernel
theorem dX2_goesLeft_7 : decode cX2_goesLeft 7 = .ok (.aload_n 0, 1) := by decide +kernel
theorem dX2_goesLeft_8 : decode cX2_goesLeft 8 = .ok (.iload_n 1, 1) := by decide +kernel
theorem dX2_goesLeft_9 : decode cX2_goesLeft 9 = .ok (.aload_n 0, 1) := by decide +kernel
theorem dX2_goesLeft_10 : decode cX2_goesLeft 10 = .ok (.iload_n 1, 1) := by decide +kernel
theorem dX2_goesLeft_11 : decode cX2_goesLeft 11 = .ok (.iload_n 2, 1) := by decide +kernel
theorem dX2_goesLeft_12 : decode cX2_goesLeft 12 = .ok (.invokestatic 32, 3) := by decide +kernel
theorem dX2_goesLeft_15 : decode cX2_goesLeft 15 = .ok (.invokevirtual 40, 3) := by decide +kernel
theorem dX2_goesLeft_18 : decode cX2_goesLeft 18 = .ok (.istore 4, 2) := by decide +kernel
theorem dX2_goesLeft_20 : decode cX2_goesLeft 20 = .ok (.iload 4, 2) := by decide +kernel
theorem dX2_goesLeft_22 : decode cX2_goesLeft 22 = .ok (.invokestatic 43, 3) := by decide +kernel
theorem dX2_goesLeft_25 : decode cX2_goesLeft 25 = .ok (.iload_n 3, 1) := by decide +kernel
theorem dX2_goesLeft_26 : decode cX2_goesLeft 26 = .ok (.invokestatic 43, 3) := by decide +kernel
theorem dX2_goesLeft_29 : decode cX2_goesLeft 29 = .ok (.if_icmp .ge 7, 3) := by decide +kernel
theorem dX2_goesLeft_32 : decode cX2_goesLeft 32 = .ok (.iconst 1, 1) := by decide +kernel
theorem dX2_goesLeft_33 : decode cX2_goesLeft 33 = .ok (.goto 4, 3) := by decide +kernel
theorem dX2_goesLeft_36 : decode cX2_goesLeft 36 = .ok (.iconst 0, 1) := by decide +kernel
theorem dX2_goesLeft_37 : decode cX2_goesLeft 37 = .ok (.ireturn, 1) := by decide +kernel
set_option maxRecDepth 200000 in
theorem ggX2_stands_X4_pointAt : GoodIn wsX2_stands wsX4_pointAt := goodIn_r _ [9, 10, 11, 12, 27, 28, 29, 30, 31, 32] rfl (by decide +kernel)
set_option maxRecDepth 200000 in
theorem gX2_stands_X4_pointAt : GoodIn wsX2_stands (wsV RX2 40 RX4 yX4_pointAt wsX4_pointAt) := goodIn_app (goodIn_of _ (by decide +kernel)) ggX2_stands_X4_pointAt
set_option maxRecDepth 200000 in
theorem ggX2_stands_X2_lastNumber : GoodIn wsX2_stands wsX2_lastNumber := goodIn_r _ [16, 17, 18, 19, 8, 20, 10, 21, 27, 28, 29, 30, 31, 32] rfl (by decide +kernel)
set_option maxRecDepth 200000 in
theorem gX2_stands_X2_lastNumber : GoodIn wsX2_stands (va_wsS RX2 32 yX2_lastNumber wsX2_lastNumber) := goodIn_app (goodIn_of _ (by decide +kernel)) ggX2_stands_X2_lastNumber
set_option maxRecDepth 200000 in
theorem ggX2_stands_X6_rowOf : GoodIn wsX2_stands wsX6_rowOf := goodIn_r _ [24] rfl (by decide +kernel)
set_option maxRecDepth 200000 in
theorem gX2_stands_X6_rowOf_n46 : GoodIn wsX2_stands (wsX6_rowOf) := ggX2_stands_X6_rowOf
set_option maxRecDepth 200000 in
theorem ggX2_stands_X6_columnOf : GoodIn wsX2_stands wsX6_columnOf := goodIn_r _ [26] rfl (by decide +kernel)
set_option maxRecDepth 200000 in
theorem gX2_stands_X6_columnOf_n43 : GoodIn wsX2_stands (wsX6_columnOf) := ggX2_stands_X6_columnOf
theorem dX2_stands_0 : decode cX2_stands 0 = .ok (.aload_n 0, 1) := by decide +kernel
theorem dX2_stands_1 : decode cX2_stands 1 = .ok (.iload_n 1, 1) := by decide +kernel
theorem dX2_stands_2 : decode cX2_stands 2 = .ok (.iload_n 2, 1) := by decide +kernel
theorem dX2_stands_3 : decode cX2_stands 3 = .ok (.invokevirtual 40, 3) := by decide +kernel
theorem dX2_stands_6 : decode cX2_stands 6 = .ok (.istore_n 3, 1) := by decide +kernel
theorem dX2_stands_7 : decode cX2_stands 7 = .ok (.aload_n 0, 1) := by decide +kernel
theorem dX2_stands_8 : decode cX2_stands 8 = .ok (.iload_n 1, 1) := by decide +kernel
theorem dX2_stands_9 : decode cX2_stands 9 = .ok (.aload_n 0, 1) := by decide +kernel
theorem dX2_stands_10 : decode cX2_stands 10 = .ok (.iload_n 1, 1) := by decide +kernel
theorem dX2_stands_11 : decode cX2_stands 11 = .ok (.iload_n 2, 1) := by decide +kernel
theorem dX2_stands_12 : decode cX2_stands 12 = .ok (.invokestatic 32, 3) := by decide +kernel
theorem dX2_stands_15 : decode cX2_stands 15 = .ok (.invokevirtual 40, 3) := by decide +kernel
theorem dX2_stands_18 : decode cX2_stands 18 = .ok (.istore 4, 2) := by decide +kernel
theorem dX2_stands_20 : decode cX2_stands 20 = .ok (.iload 4, 2) := by decide +kernel
theorem dX2_stands_22 : decode cX2_stands 22 = .ok (.invokestatic 46, 3) := by decide +kernel
theorem dX2_stands_25 : decode cX2_stands 25 = .ok (.iload_n 3, 1) := by decide +kernel
theorem dX2_stands_26 : decode cX2_stands 26 = .ok (.invokestatic 46, 3) := by decide +kernel
theorem dX2_stands_29 : decode cX2_stands 29 = .ok (.isub, 1) := by decide +kernel
theorem dX2_stands_30 : decode cX2_stands 30 = .ok (.invokestatic 49, 3) := by decide +kernel
theorem dX2_stands_33 : decode cX2_stands 33 = .ok (.istore 5, 2) := by decide +kernel
theorem dX2_stands_35 : decode cX2_stands 35 = .ok (.iload 5, 2) := by decide +kernel
theorem dX2_stands_37 : decode cX2_stands 37 = .ok (.iload 4, 2) := by decide +kernel
theorem dX2_stands_39 : decode cX2_stands 39 = .ok (.invokestatic 43, 3) := by decide +kernel
theorem dX2_stands_42 : decode cX2_stands 42 = .ok (.iload_n 3, 1) := by decide +kernel
theorem dX2_stands_43 : decode cX2_stands 43 = .ok (.invokestatic 43, 3) := by decide +kernel
theorem dX2_stands_46 : decode cX2_stands 46 = .ok (.isub, 1) := by decide +kernel
theorem dX2_stands_47 : decode cX2_stands 47 = .ok (.invokestatic 49, 3) := by decide +kernel
theorem dX2_stands_50 : decode cX2_stands 50 = .ok (.if_icmp .le 7, 3) := by decide +kernel
theorem dX2_stands_53 : decode cX2_stands 53 = .ok (.iconst 1, 1) := by decide +kernel
theorem dX2_stands_54 : decode cX2_stands 54 = .ok (.goto 4, 3) := by decide +kernel
theorem dX2_stands_57 : decode cX2_stands 57 = .ok (.iconst 0, 1) := by decide +kernel
theorem dX2_stands_58 : decode cX2_stands 58 = .ok (.ireturn, 1) := by decide +kernel
set_option maxRecDepth 200000 in
theorem ggX2_reasonAgainst_X2_reasonOfShape : GoodIn wsX2_reasonAgainst wsX2_reasonOfShape := goodIn_r _ [4, 5, 6, 3, 7, 8, 9, 10, 11, 12, 13, 14, 15, 16, 17, 18, 19, 20, 21, 22, 23, 24, 25, 26, 27, 28, 29, 30, 31, 32, 33, 34, 35, 36, 37, 38, 39, 40, 41, 42, 43, 44, 45, 46, 47, 48, 49, 50, 51, 52, 53, 54, 55, 56, 57, 58, 59, 60, 61, 62, 63, 64, 94, 95, 96, 97, 98, 99] rfl (by decide +kernel)
set_option maxRecDepth 200000 in
theorem gX2_reasonAgainst_X2_reasonOfShape : GoodIn wsX2_reasonAgainst (va_wsS RX2 54 yX2_reasonOfShape wsX2_reasonOfShape) := goodIn_app (goodIn_of _ (by decide +kernel)) ggX2_reasonAgainst_X2_reasonOfShape
set_option maxRecDepth 200000 in
theorem ggX2_reasonAgainst_X2_distanceToOthers : GoodIn wsX2_reasonAgainst wsX2_distanceToOthers := goodIn_r _ [67, 68, 44, 41, 45, 69, 70, 71, 11, 72, 13, 73, 74, 75, 76, 77, 78, 79, 3, 80, 32, 33, 34, 24, 25, 26, 27, 28, 56, 57, 58, 59, 14, 19, 81, 61, 82, 83, 40, 42, 84, 85, 86, 87, 63, 64, 88, 60, 62, 94, 95, 96, 97, 98, 99] rfl (by decide +kernel)
set_option maxRecDepth 200000 in
theorem gX2_reasonAgainst_X2_distanceToOthers : GoodIn wsX2_reasonAgainst (va_wsS RX2 57 yX2_distanceToOthers wsX2_distanceToOthers) := goodIn_app (goodIn_of _ (by decide +kernel)) ggX2_reasonAgainst_X2_distanceToOthers
set_option maxRecDepth 200000 in
theorem ggX2_reasonAgainst_X4_gapWidth : GoodIn wsX2_reasonAgainst wsX4_gapWidth := goodIn_r _ [92, 93, 94, 95, 96, 97, 98, 99] rfl (by decide +kernel)
set_option maxRecDepth 200000 in
theorem gX2_reasonAgainst_X4_gapWidth : GoodIn wsX2_reasonAgainst (wsV RX2 60 RX4 yX4_gapWidth wsX4_gapWidth) := goodIn_app (goodIn_of _ (by decide +kernel)) ggX2_reasonAgainst_X4_gapWidth
theorem dX2_reasonAgainst_0 : decode cX2_reasonAgainst 0 = .ok (.aload_n 0, 1) := by decide +kernel
theorem dX2_reasonAgainst_1 : decode cX2_reasonAgainst 1 = .ok (.iload_n 1, 1) := by decide +kernel
theorem dX2_reasonAgainst_2 : decode cX2_reasonAgainst 2 = .ok (.iload_n 2, 1) := by decide +kernel
theorem dX2_reasonAgainst_3 : decode cX2_reasonAgainst 3 = .ok (.invokestatic 54, 3) := by decide +kernel
theorem dX2_reasonAgainst_6 : decode cX2_reasonAgainst 6 = .ok (.istore_n 3, 1) := by decide +kernel
theorem dX2_reasonAgainst_7 : decode cX2_reasonAgainst 7 = .ok (.iload_n 3, 1) := by decide +kernel
theorem dX2_reasonAgainst_8 : decode cX2_reasonAgainst 8 = .ok (.ifCond .eq 5, 3) := by decide +kernel
theorem dX2_reasonAgainst_11 : decode cX2_reasonAgainst 11 = .ok (.iload_n 3, 1) := by decide +kernel
theorem dX2_reasonAgainst_12 : decode cX2_reasonAgainst 12 = .ok (.ireturn, 1) := by decide +kernel
theorem dX2_reasonAgainst_13 : decode cX2_reasonAgainst 13 = .ok (.aload_n 0, 1) := by decide +kernel
theorem dX2_reasonAgainst_14 : decode cX2_reasonAgainst 14 = .ok (.iload_n 1, 1) := by decide +kernel
theorem dX2_reasonAgainst_15 : decode cX2_reasonAgainst 15 = .ok (.iload_n 2, 1) := by decide +kernel
theorem dX2_reasonAgainst_16 : decode cX2_reasonAgainst 16 = .ok (.invokestatic 57, 3) := by decide +kernel
theorem dX2_reasonAgainst_19 : decode cX2_reasonAgainst 19 = .ok (.aload_n 0, 1) := by decide +kernel
theorem dX2_reasonAgainst_20 : decode cX2_reasonAgainst 20 = .ok (.invokevirtual 60, 3) := by decide +kernel
theorem dX2_reasonAgainst_23 : decode cX2_reasonAgainst 23 = .ok (.if_icmp .ge 7, 3) := by decide +kernel
theorem dX2_reasonAgainst_26 : decode cX2_reasonAgainst 26 = .ok (.iconst 4, 1) := by decide +kernel
theorem dX2_reasonAgainst_27 : decode cX2_reasonAgainst 27 = .ok (.goto 4, 3) := by decide +kernel
theorem dX2_reasonAgainst_30 : decode cX2_reasonAgainst 30 = .ok (.iconst 0, 1) := by decide +kernel
theorem dX2_reasonAgainst_31 : decode cX2_reasonAgainst 31 = .ok (.ireturn, 1) := by decide +kernel
set_option maxRecDepth 200000 in
theorem ggX2_reasonOfShape_X2_isPlace : GoodIn wsX2_reasonOfShape wsX2_isPlace := goodIn_r _ [4, 5, 6, 7, 8, 9, 10, 11, 12, 13, 14, 15, 16, 17, 18, 19, 20, 21, 22, 23, 24, 25, 62, 63, 64, 65, 66, 67] rfl (by decide +kernel)
set_option maxRecDepth 200000 in
theorem gX2_reasonOfShape_X2_isPlace : GoodIn wsX2_reasonOfShape (va_wsS RX2 26 yX2_isPlace wsX2_isPlace) := goodIn_app (goodIn_of _ (by decide +kernel)) ggX2_reasonOfShape_X2_isPlace
set_option maxRecDepth 200000 in
theorem ggX2_reasonOfShape_X2_bendOfPlace : GoodIn wsX2_reasonOfShape wsX2_bendOfPlace := goodIn_r _ [28, 1, 2, 3, 4, 5, 6, 7, 8, 9, 10, 11, 12, 13, 14, 15, 16, 17, 18, 19, 20, 21, 22, 23, 24, 25, 29, 30, 31, 32, 33, 34, 35, 36, 37, 38, 39, 40, 41, 42, 43, 44, 45, 46, 47, 48, 62, 63, 64, 65, 66, 67] rfl (by decide +kernel)
set_option maxRecDepth 200000 in
theorem gX2_reasonOfShape_X2_bendOfPlace : GoodIn wsX2_reasonOfShape (va_wsS RX2 64 yX2_bendOfPlace wsX2_bendOfPlace) := goodIn_app (goodIn_of _ (by decide +kernel)) ggX2_reasonOfShape_X2_bendOfPlace
set_option maxRecDepth 200000 in
theorem ggX2_reasonOfShape_X2_stands : GoodIn wsX2_reasonOfShape wsX2_stands := goodIn_r _ [51, 52, 37, 38, 39, 53, 54, 55, 8, 56, 10, 11, 16, 29, 30, 3, 31, 21, 22, 23, 24, 25, 57, 58, 59, 60, 61, 62, 63, 64, 65, 66, 67] rfl (by decide +kernel)
set_option maxRecDepth 200000 in
theorem gX2_reasonOfShape_X2_stands : GoodIn wsX2_reasonOfShape (va_wsS RX2 67 yX2_stands wsX2_stands) := goodIn_app (goodIn_of _ (by decide +kernel)) ggX2_reasonOfShape_X2_stands
theorem dX2_reasonOfShape_0 : decode cX2_reasonOfShape 0 = .ok (.aload_n 0, 1) := by decide +kernel
theorem dX2_reasonOfShape_1 : decode cX2_reasonOfShape 1 = .ok (.iload_n 1, 1) := by decide +kernel
theorem dX2_reasonOfShape_2 : decode cX2_reasonOfShape 2 = .ok (.iload_n 2, 1) := by decide +kernel
theorem dX2_reasonOfShape_3 : decode cX2_reasonOfShape 3 = .ok (.invokestatic 26, 3) := by decide +kernel
theorem dX2_reasonOfShape_6 : decode cX2_reasonOfShape 6 = .ok (.ifCond .ne 5, 3) := by decide +kernel
theorem dX2_reasonOfShape_9 : decode cX2_reasonOfShape 9 = .ok (.iconst 1, 1) := by decide +kernel
theorem dX2_reasonOfShape_10 : decode cX2_reasonOfShape 10 = .ok (.ireturn, 1) := by decide +kernel
theorem dX2_reasonOfShape_11 : decode cX2_reasonOfShape 11 = .ok (.aload_n 0, 1) := by decide +kernel
theorem dX2_reasonOfShape_12 : decode cX2_reasonOfShape 12 = .ok (.iload_n 1, 1) := by decide +kernel
theorem dX2_reasonOfShape_13 : decode cX2_reasonOfShape 13 = .ok (.iload_n 2, 1) := by decide +kernel
theorem dX2_reasonOfShape_14 : decode cX2_reasonOfShape 14 = .ok (.invokestatic 64, 3) := by decide +kernel
theorem dX2_reasonOfShape_17 : decode cX2_reasonOfShape 17 = .ok (.iconst 1, 1) := by decide +kernel
theorem dX2_reasonOfShape_18 : decode cX2_reasonOfShape 18 = .ok (.if_icmp .le 5, 3) := by decide +kernel
theorem dX2_reasonOfShape_21 : decode cX2_reasonOfShape 21 = .ok (.iconst 2, 1) := by decide +kernel
theorem dX2_reasonOfShape_22 : decode cX2_reasonOfShape 22 = .ok (.ireturn, 1) := by decide +kernel
theorem dX2_reasonOfShape_23 : decode cX2_reasonOfShape 23 = .ok (.aload_n 0, 1) := by decide +kernel
theorem dX2_reasonOfShape_24 : decode cX2_reasonOfShape 24 = .ok (.iload_n 1, 1) := by decide +kernel
theorem dX2_reasonOfShape_25 : decode cX2_reasonOfShape 25 = .ok (.iload_n 2, 1) := by decide +kernel
theorem dX2_reasonOfShape_26 : decode cX2_reasonOfShape 26 = .ok (.invokestatic 67, 3) := by decide +kernel
theorem dX2_reasonOfShape_29 : decode cX2_reasonOfShape 29 = .ok (.ifCond .eq 7, 3) := by decide +kernel
theorem dX2_reasonOfShape_32 : decode cX2_reasonOfShape 32 = .ok (.iconst 3, 1) := by decide +kernel
theorem dX2_reasonOfShape_33 : decode cX2_reasonOfShape 33 = .ok (.goto 4, 3) := by decide +kernel
theorem dX2_reasonOfShape_36 : decode cX2_reasonOfShape 36 = .ok (.iconst 0, 1) := by decide +kernel
theorem dX2_reasonOfShape_37 : decode cX2_reasonOfShape 37 = .ok (.ireturn, 1) := by decide +kernel
set_option maxRecDepth 200000 in
theorem ggX2_distanceToOthers_X4_lineCount : GoodIn wsX2_distanceToOthers wsX4_lineCount := goodIn_r _ [9, 10, 49, 50, 51, 52, 53, 54] rfl (by decide +kernel)
set_option maxRecDepth 200000 in
theorem gX2_distanceToOthers_X4_lineCount : GoodIn wsX2_distanceToOthers (wsV RX2 70 RX4 yX4_lineCount wsX4_lineCount) := goodIn_app (goodIn_of _ (by decide +kernel)) ggX2_distanceToOthers_X4_lineCount
set_option maxRecDepth 200000 in
theorem ggX2_distanceToOthers_X4_labelIn : GoodIn wsX2_distanceToOthers wsX4_labelIn := goodIn_r _ [14, 10, 15, 49, 50, 51, 52, 53, 54] rfl (by decide +kernel)
set_option maxRecDepth 200000 in
theorem gX2_distanceToOthers_X4_labelIn : GoodIn wsX2_distanceToOthers (wsV RX2 73 RX4 yX4_labelIn wsX4_labelIn) := goodIn_app (goodIn_of _ (by decide +kernel)) ggX2_distanceToOthers_X4_labelIn
set_option maxRecDepth 200000 in
theorem ggX2_distanceToOthers_X2_distanceToLabel : GoodIn wsX2_distanceToOthers wsX2_distanceToLabel := goodIn_r _ [19, 1, 2, 3, 4, 11, 12, 13, 8, 14, 10, 15, 20, 21, 18, 22, 23, 24, 25, 26, 27, 28, 29, 30, 31, 32, 33, 34, 35, 36, 37, 38, 39, 40, 41, 42, 43, 44, 45, 46, 47, 48, 49, 50, 51, 52, 53, 54] rfl (by decide +kernel)
set_option maxRecDepth 200000 in
theorem gX2_distanceToOthers_X2_distanceToLabel : GoodIn wsX2_distanceToOthers (va_wsS RX2 76 yX2_distanceToLabel wsX2_distanceToLabel) := goodIn_app (goodIn_of _ (by decide +kernel)) ggX2_distanceToOthers_X2_distanceToLabel
theorem dX2_distanceToOthers_0 : decode cX2_distanceToOthers 0 = .ok (.bipush 99, 2) := by decide +kernel
theorem dX2_distanceToOthers_2 : decode cX2_distanceToOthers 2 = .ok (.istore_n 3, 1) := by decide +kernel
theorem dX2_distanceToOthers_3 : decode cX2_distanceToOthers 3 = .ok (.iconst 0, 1) := by decide +kernel
theorem dX2_distanceToOthers_4 : decode cX2_distanceToOthers 4 = .ok (.istore 4, 2) := by decide +kernel
theorem dX2_distanceToOthers_6 : decode cX2_distanceToOthers 6 = .ok (.iload 4, 2) := by decide +kernel
theorem dX2_distanceToOthers_8 : decode cX2_distanceToOthers 8 = .ok (.aload_n 0, 1) := by decide +kernel
theorem dX2_distanceToOthers_9 : decode cX2_distanceToOthers 9 = .ok (.invokevirtual 70, 3) := by decide +kernel
theorem dX2_distanceToOthers_12 : decode cX2_distanceToOthers 12 = .ok (.if_icmp .ge 38, 3) := by decide +kernel
theorem dX2_distanceToOthers_15 : decode cX2_distanceToOthers 15 = .ok (.iload 4, 2) := by decide +kernel
theorem dX2_distanceToOthers_17 : decode cX2_distanceToOthers 17 = .ok (.iload_n 1, 1) := by decide +kernel
theorem dX2_distanceToOthers_18 : decode cX2_distanceToOthers 18 = .ok (.if_icmp .eq 26, 3) := by decide +kernel
theorem dX2_distanceToOthers_21 : decode cX2_distanceToOthers 21 = .ok (.aload_n 0, 1) := by decide +kernel
theorem dX2_distanceToOthers_22 : decode cX2_distanceToOthers 22 = .ok (.iload 4, 2) := by decide +kernel
theorem dX2_distanceToOthers_24 : decode cX2_distanceToOthers 24 = .ok (.invokevirtual 73, 3) := by decide +kernel
theorem dX2_distanceToOthers_27 : decode cX2_distanceToOthers 27 = .ok (.iconst (-1), 1) := by decide +kernel
theorem dX2_distanceToOthers_28 : decode cX2_distanceToOthers 28 = .ok (.if_icmp .eq 16, 3) := by decide +kernel
theorem dX2_distanceToOthers_31 : decode cX2_distanceToOthers 31 = .ok (.iload_n 3, 1) := by decide +kernel
theorem dX2_distanceToOthers_32 : decode cX2_distanceToOthers 32 = .ok (.aload_n 0, 1) := by decide +kernel
theorem dX2_distanceToOthers_33 : decode cX2_distanceToOthers 33 = .ok (.iload_n 1, 1) := by decide +kernel
theorem dX2_distanceToOthers_34 : decode cX2_distanceToOthers 34 = .ok (.iload_n 2, 1) := by decide +kernel
theorem dX2_distanceToOthers_35 : decode cX2_distanceToOthers 35 = .ok (.iload 4, 2) := by decide +kernel
theorem dX2_distanceToOthers_37 : decode cX2_distanceToOthers 37 = .ok (.invokestatic 76, 3) := by decide +kernel
theorem dX2_distanceToOthers_40 : decode cX2_distanceToOthers 40 = .ok (.invokestatic 80, 3) := by decide +kernel
theorem dX2_distanceToOthers_43 : decode cX2_distanceToOthers 43 = .ok (.istore_n 3, 1) := by decide +kernel
theorem dX2_distanceToOthers_44 : decode cX2_distanceToOthers 44 = .ok (.iinc 4 1, 3) := by decide +kernel
theorem dX2_distanceToOthers_47 : decode cX2_distanceToOthers 47 = .ok (.goto (-41), 3) := by decide +kernel
theorem dX2_distanceToOthers_50 : decode cX2_distanceToOthers 50 = .ok (.iload_n 3, 1) := by decide +kernel
theorem dX2_distanceToOthers_51 : decode cX2_distanceToOthers 51 = .ok (.ireturn, 1) := by decide +kernel
set_option maxRecDepth 200000 in
theorem ggX2_distanceToLabel_X4_labelIn : GoodIn wsX2_distanceToLabel wsX4_labelIn := goodIn_r _ [9, 10, 11, 42, 43, 44, 45, 46, 47] rfl (by decide +kernel)
set_option maxRecDepth 200000 in
theorem gX2_distanceToLabel_X4_labelIn : GoodIn wsX2_distanceToLabel (wsV RX2 73 RX4 yX4_labelIn wsX4_labelIn) := goodIn_app (goodIn_of _ (by decide +kernel)) ggX2_distanceToLabel_X4_labelIn
set_option maxRecDepth 200000 in
theorem ggX2_distanceToLabel_X2_lastNumber : GoodIn wsX2_distanceToLabel wsX2_lastNumber := goodIn_r _ [15, 16, 17, 18, 8, 19, 10, 20, 42, 43, 44, 45, 46, 47] rfl (by decide +kernel)
set_option maxRecDepth 200000 in
theorem gX2_distanceToLabel_X2_lastNumber : GoodIn wsX2_distanceToLabel (va_wsS RX2 32 yX2_lastNumber wsX2_lastNumber) := goodIn_app (goodIn_of _ (by decide +kernel)) ggX2_distanceToLabel_X2_lastNumber
set_option maxRecDepth 200000 in
theorem ggX2_distanceToLabel_X4_pointAt : GoodIn wsX2_distanceToLabel wsX4_pointAt := goodIn_r _ [24, 10, 25, 26, 42, 43, 44, 45, 46, 47] rfl (by decide +kernel)
set_option maxRecDepth 200000 in
theorem gX2_distanceToLabel_X4_pointAt : GoodIn wsX2_distanceToLabel (wsV RX2 40 RX4 yX4_pointAt wsX4_pointAt) := goodIn_app (goodIn_of _ (by decide +kernel)) ggX2_distanceToLabel_X4_pointAt
set_option maxRecDepth 200000 in
theorem ggX2_distanceToLabel_X6_distance : GoodIn wsX2_distanceToLabel wsX6_distance := goodIn_r _ [29, 30, 31, 3, 32, 33, 34, 35, 36, 37, 28, 38, 39, 40, 41] rfl (by decide +kernel)
set_option maxRecDepth 200000 in
theorem gX2_distanceToLabel_X6_distance_n83 : GoodIn wsX2_distanceToLabel (wsX6_distance) := ggX2_distanceToLabel_X6_distance
theorem dX2_distanceToLabel_0 : decode cX2_distanceToLabel 0 = .ok (.aload_n 0, 1) := by decide +kernel
theorem dX2_distanceToLabel_1 : decode cX2_distanceToLabel 1 = .ok (.iload_n 3, 1) := by decide +kernel
theorem dX2_distanceToLabel_2 : decode cX2_distanceToLabel 2 = .ok (.invokevirtual 73, 3) := by decide +kernel
theorem dX2_distanceToLabel_5 : decode cX2_distanceToLabel 5 = .ok (.istore 4, 2) := by decide +kernel
theorem dX2_distanceToLabel_7 : decode cX2_distanceToLabel 7 = .ok (.aload_n 0, 1) := by decide +kernel
theorem dX2_distanceToLabel_8 : decode cX2_distanceToLabel 8 = .ok (.iload_n 1, 1) := by decide +kernel
theorem dX2_distanceToLabel_9 : decode cX2_distanceToLabel 9 = .ok (.iload_n 2, 1) := by decide +kernel
theorem dX2_distanceToLabel_10 : decode cX2_distanceToLabel 10 = .ok (.invokestatic 32, 3) := by decide +kernel
theorem dX2_distanceToLabel_13 : decode cX2_distanceToLabel 13 = .ok (.istore 5, 2) := by decide +kernel
theorem dX2_distanceToLabel_15 : decode cX2_distanceToLabel 15 = .ok (.aload_n 0, 1) := by decide +kernel
theorem dX2_distanceToLabel_16 : decode cX2_distanceToLabel 16 = .ok (.iload_n 3, 1) := by decide +kernel
theorem dX2_distanceToLabel_17 : decode cX2_distanceToLabel 17 = .ok (.iload 4, 2) := by decide +kernel
theorem dX2_distanceToLabel_19 : decode cX2_distanceToLabel 19 = .ok (.invokestatic 32, 3) := by decide +kernel
theorem dX2_distanceToLabel_22 : decode cX2_distanceToLabel 22 = .ok (.istore 6, 2) := by decide +kernel
theorem dX2_distanceToLabel_24 : decode cX2_distanceToLabel 24 = .ok (.bipush 99, 2) := by decide +kernel
theorem dX2_distanceToLabel_26 : decode cX2_distanceToLabel 26 = .ok (.istore 7, 2) := by decide +kernel
theorem dX2_distanceToLabel_28 : decode cX2_distanceToLabel 28 = .ok (.iload_n 2, 1) := by decide +kernel
theorem dX2_distanceToLabel_29 : decode cX2_distanceToLabel 29 = .ok (.istore 8, 2) := by decide +kernel
theorem dX2_distanceToLabel_31 : decode cX2_distanceToLabel 31 = .ok (.iload 8, 2) := by decide +kernel
theorem dX2_distanceToLabel_33 : decode cX2_distanceToLabel 33 = .ok (.iload 5, 2) := by decide +kernel
theorem dX2_distanceToLabel_35 : decode cX2_distanceToLabel 35 = .ok (.if_icmp .gt 54, 3) := by decide +kernel
theorem dX2_distanceToLabel_38 : decode cX2_distanceToLabel 38 = .ok (.aload_n 0, 1) := by decide +kernel
theorem dX2_distanceToLabel_39 : decode cX2_distanceToLabel 39 = .ok (.iload_n 1, 1) := by decide +kernel
theorem dX2_distanceToLabel_40 : decode cX2_distanceToLabel 40 = .ok (.iload 8, 2) := by decide +kernel
theorem dX2_distanceToLabel_42 : decode cX2_distanceToLabel 42 = .ok (.invokevirtual 40, 3) := by decide +kernel
theorem dX2_distanceToLabel_45 : decode cX2_distanceToLabel 45 = .ok (.istore 9, 2) := by decide +kernel
theorem dX2_distanceToLabel_47 : decode cX2_distanceToLabel 47 = .ok (.iload 4, 2) := by decide +kernel
theorem dX2_distanceToLabel_49 : decode cX2_distanceToLabel 49 = .ok (.istore 10, 2) := by decide +kernel
theorem dX2_distanceToLabel_51 : decode cX2_distanceToLabel 51 = .ok (.iload 10, 2) := by decide +kernel
theorem dX2_distanceToLabel_53 : decode cX2_distanceToLabel 53 = .ok (.iload 6, 2) := by decide +kernel
theorem dX2_distanceToLabel_55 : decode cX2_distanceToLabel 55 = .ok (.if_icmp .gt 28, 3) := by decide +kernel
theorem dX2_distanceToLabel_58 : decode cX2_distanceToLabel 58 = .ok (.iload 7, 2) := by decide +kernel
theorem dX2_distanceToLabel_60 : decode cX2_distanceToLabel 60 = .ok (.iload 9, 2) := by decide +kernel
theorem dX2_distanceToLabel_62 : decode cX2_distanceToLabel 62 = .ok (.aload_n 0, 1) := by decide +kernel
theorem dX2_distanceToLabel_63 : decode cX2_distanceToLabel 63 = .ok (.iload_n 3, 1) := by decide +kernel
theorem dX2_distanceToLabel_64 : decode cX2_distanceToLabel 64 = .ok (.iload 10, 2) := by decide +kernel
theorem dX2_distanceToLabel_66 : decode cX2_distanceToLabel 66 = .ok (.invokevirtual 40, 3) := by decide +kernel
theorem dX2_distanceToLabel_69 : decode cX2_distanceToLabel 69 = .ok (.invokestatic 83, 3) := by decide +kernel
theorem dX2_distanceToLabel_72 : decode cX2_distanceToLabel 72 = .ok (.invokestatic 80, 3) := by decide +kernel
theorem dX2_distanceToLabel_75 : decode cX2_distanceToLabel 75 = .ok (.istore 7, 2) := by decide +kernel
theorem dX2_distanceToLabel_77 : decode cX2_distanceToLabel 77 = .ok (.iinc 10 1, 3) := by decide +kernel
theorem dX2_distanceToLabel_80 : decode cX2_distanceToLabel 80 = .ok (.goto (-29), 3) := by decide +kernel
theorem dX2_distanceToLabel_83 : decode cX2_distanceToLabel 83 = .ok (.iinc 8 1, 3) := by decide +kernel
theorem dX2_distanceToLabel_86 : decode cX2_distanceToLabel 86 = .ok (.goto (-55), 3) := by decide +kernel
theorem dX2_distanceToLabel_89 : decode cX2_distanceToLabel 89 = .ok (.iload 7, 2) := by decide +kernel
theorem dX2_distanceToLabel_91 : decode cX2_distanceToLabel 91 = .ok (.ireturn, 1) := by decide +kernel
set_option maxRecDepth 200000 in
theorem ggX2_countPlaces_X4_stepCount : GoodIn wsX2_countPlaces wsX4_stepCount := goodIn_r _ [5, 6, 7, 97, 98, 99, 100, 101, 102] rfl (by decide +kernel)
set_option maxRecDepth 200000 in
theorem gX2_countPlaces_X4_stepCount : GoodIn wsX2_countPlaces (wsV RX2 15 RX4 yX4_stepCount wsX4_stepCount) := goodIn_app (goodIn_of _ (by decide +kernel)) ggX2_countPlaces_X4_stepCount
set_option maxRecDepth 200000 in
theorem ggX2_countPlaces_X2_reasonAgainst : GoodIn wsX2_countPlaces wsX2_reasonAgainst := goodIn_r _ [11, 12, 13, 10, 14, 15, 16, 17, 1, 2, 3, 4, 5, 6, 7, 18, 19, 20, 21, 22, 23, 24, 25, 26, 27, 28, 29, 30, 31, 32, 33, 34, 35, 36, 37, 38, 39, 40, 41, 42, 43, 44, 45, 46, 47, 48, 49, 50, 51, 52, 53, 54, 55, 56, 57, 58, 59, 60, 61, 62, 63, 64, 65, 66, 67, 68, 69, 70, 71, 72, 73, 74, 75, 76, 77, 78, 79, 80, 81, 82, 83, 84, 85, 86, 87, 88, 89, 90, 91, 92, 93, 94, 95, 96, 97, 98, 99, 100, 101, 102] rfl (by decide +kernel)
set_option maxRecDepth 200000 in
theorem gX2_countPlaces_X2_reasonAgainst : GoodIn wsX2_countPlaces (va_wsS RX2 86 yX2_reasonAgainst wsX2_reasonAgainst) := goodIn_app (goodIn_of _ (by decide +kernel)) ggX2_countPlaces_X2_reasonAgainst
theorem dX2_countPlaces_0 : decode cX2_countPlaces 0 = .ok (.aload_n 0, 1) := by decide +kernel
theorem dX2_countPlaces_1 : decode cX2_countPlaces 1 = .ok (.iload_n 1, 1) := by decide +kernel
theorem dX2_countPlaces_2 : decode cX2_countPlaces 2 = .ok (.invokevirtual 15, 3) := by decide +kernel
theorem dX2_countPlaces_5 : decode cX2_countPlaces 5 = .ok (.istore_n 2, 1) := by decide +kernel
theorem dX2_countPlaces_6 : decode cX2_countPlaces 6 = .ok (.iconst 0, 1) := by decide +kernel
theorem dX2_countPlaces_7 : decode cX2_countPlaces 7 = .ok (.istore_n 3, 1) := by decide +kernel
theorem dX2_countPlaces_8 : decode cX2_countPlaces 8 = .ok (.iconst 0, 1) := by decide +kernel
theorem dX2_countPlaces_9 : decode cX2_countPlaces 9 = .ok (.istore 4, 2) := by decide +kernel
theorem dX2_countPlaces_11 : decode cX2_countPlaces 11 = .ok (.iload 4, 2) := by decide +kernel
theorem dX2_countPlaces_13 : decode cX2_countPlaces 13 = .ok (.iload_n 2, 1) := by decide +kernel
theorem dX2_countPlaces_14 : decode cX2_countPlaces 14 = .ok (.if_icmp .gt 22, 3) := by decide +kernel
theorem dX2_countPlaces_17 : decode cX2_countPlaces 17 = .ok (.aload_n 0, 1) := by decide +kernel
theorem dX2_countPlaces_18 : decode cX2_countPlaces 18 = .ok (.iload_n 1, 1) := by decide +kernel
theorem dX2_countPlaces_19 : decode cX2_countPlaces 19 = .ok (.iload 4, 2) := by decide +kernel
theorem dX2_countPlaces_21 : decode cX2_countPlaces 21 = .ok (.invokestatic 86, 3) := by decide +kernel
theorem dX2_countPlaces_24 : decode cX2_countPlaces 24 = .ok (.ifCond .ne 6, 3) := by decide +kernel
theorem dX2_countPlaces_27 : decode cX2_countPlaces 27 = .ok (.iinc 3 1, 3) := by decide +kernel
theorem dX2_countPlaces_30 : decode cX2_countPlaces 30 = .ok (.iinc 4 1, 3) := by decide +kernel
theorem dX2_countPlaces_33 : decode cX2_countPlaces 33 = .ok (.goto (-22), 3) := by decide +kernel
theorem dX2_countPlaces_36 : decode cX2_countPlaces 36 = .ok (.iload_n 3, 1) := by decide +kernel
theorem dX2_countPlaces_37 : decode cX2_countPlaces 37 = .ok (.ireturn, 1) := by decide +kernel
set_option maxRecDepth 200000 in
theorem ggX2_best_X4_stepCount : GoodIn wsX2_best wsX4_stepCount := goodIn_r _ [5, 6, 7, 94, 95, 96, 97, 98, 99] rfl (by decide +kernel)
set_option maxRecDepth 200000 in
theorem gX2_best_X4_stepCount : GoodIn wsX2_best (wsV RX2 15 RX4 yX4_stepCount wsX4_stepCount) := goodIn_app (goodIn_of _ (by decide +kernel)) ggX2_best_X4_stepCount
set_option maxRecDepth 200000 in
theorem ggX2_best_X2_reasonOfShape : GoodIn wsX2_best wsX2_reasonOfShape := goodIn_r _ [11, 12, 13, 10, 14, 1, 2, 3, 4, 5, 6, 7, 15, 16, 17, 18, 19, 20, 21, 22, 23, 24, 25, 26, 27, 28, 29, 30, 31, 32, 33, 34, 35, 36, 37, 38, 39, 40, 41, 42, 43, 44, 45, 46, 47, 48, 49, 50, 51, 52, 53, 54, 55, 56, 57, 58, 59, 60, 61, 62, 63, 64, 94, 95, 96, 97, 98, 99] rfl (by decide +kernel)
set_option maxRecDepth 200000 in
theorem gX2_best_X2_reasonOfShape : GoodIn wsX2_best (va_wsS RX2 54 yX2_reasonOfShape wsX2_reasonOfShape) := goodIn_app (goodIn_of _ (by decide +kernel)) ggX2_best_X2_reasonOfShape
set_option maxRecDepth 200000 in
theorem ggX2_best_X2_bendOfPlace : GoodIn wsX2_best wsX2_bendOfPlace := goodIn_r _ [31, 12, 13, 10, 14, 1, 2, 3, 4, 5, 6, 7, 15, 16, 17, 18, 19, 20, 21, 22, 23, 24, 25, 26, 27, 28, 32, 33, 34, 35, 36, 37, 38, 39, 40, 41, 42, 43, 44, 45, 46, 47, 48, 49, 50, 51, 94, 95, 96, 97, 98, 99] rfl (by decide +kernel)
set_option maxRecDepth 200000 in
theorem gX2_best_X2_bendOfPlace : GoodIn wsX2_best (va_wsS RX2 64 yX2_bendOfPlace wsX2_bendOfPlace) := goodIn_app (goodIn_of _ (by decide +kernel)) ggX2_best_X2_bendOfPlace
set_option maxRecDepth 200000 in
theorem ggX2_best_X2_distanceToOthers : GoodIn wsX2_best wsX2_distanceToOthers := goodIn_r _ [67, 68, 44, 41, 45, 69, 70, 71, 4, 72, 6, 73, 74, 75, 76, 77, 78, 79, 10, 80, 32, 33, 34, 24, 25, 26, 27, 28, 56, 57, 58, 59, 7, 19, 81, 61, 82, 83, 40, 42, 84, 85, 86, 87, 63, 64, 88, 60, 62, 94, 95, 96, 97, 98, 99] rfl (by decide +kernel)
set_option maxRecDepth 200000 in
theorem gX2_best_X2_distanceToOthers : GoodIn wsX2_best (va_wsS RX2 57 yX2_distanceToOthers wsX2_distanceToOthers) := goodIn_app (goodIn_of _ (by decide +kernel)) ggX2_best_X2_distanceToOthers
set_option maxRecDepth 200000 in
theorem ggX2_best_X4_gapWidth : GoodIn wsX2_best wsX4_gapWidth := goodIn_r _ [92, 93, 94, 95, 96, 97, 98, 99] rfl (by decide +kernel)
set_option maxRecDepth 200000 in
theorem gX2_best_X4_gapWidth : GoodIn wsX2_best (wsV RX2 60 RX4 yX4_gapWidth wsX4_gapWidth) := goodIn_app (goodIn_of _ (by decide +kernel)) ggX2_best_X4_gapWidth
theorem dX2_best_0 : decode cX2_best 0 = .ok (.aload_n 0, 1) := by decide +kernel
theorem dX2_best_1 : decode cX2_best 1 = .ok (.iload_n 1, 1) := by decide +kernel
theorem dX2_best_2 : decode cX2_best 2 = .ok (.invokevirtual 15, 3) := by decide +kernel
theorem dX2_best_5 : decode cX2_best 5 = .ok (.istore_n 2, 1) := by decide +kernel
theorem dX2_best_6 : decode cX2_best 6 = .ok (.iconst (-1), 1) := by decide +kernel
theorem dX2_best_7 : decode cX2_best 7 = .ok (.istore_n 3, 1) := by decide +kernel
theorem dX2_best_8 : decode cX2_best 8 = .ok (.iconst 0, 1) := by decide +kernel
theorem dX2_best_9 : decode cX2_best 9 = .ok (.istore 4, 2) := by decide +kernel
theorem dX2_best_11 : decode cX2_best 11 = .ok (.iconst 0, 1) := by decide +kernel
theorem dX2_best_12 : decode cX2_best 12 = .ok (.istore 5, 2) := by decide +kernel
theorem dX2_best_14 : decode cX2_best 14 = .ok (.iconst 0, 1) := by decide +kernel
theorem dX2_best_15 : decode cX2_best 15 = .ok (.istore 6, 2) := by decide +kernel
theorem dX2_best_17 : decode cX2_best 17 = .ok (.iload 6, 2) := by decide +kernel
theorem dX2_best_19 : decode cX2_best 19 = .ok (.iload_n 2, 1) := by decide +kernel
theorem dX2_best_20 : decode cX2_best 20 = .ok (.if_icmp .gt 98, 3) := by decide +kernel
theorem dX2_best_23 : decode cX2_best 23 = .ok (.aload_n 0, 1) := by decide +kernel
theorem dX2_best_24 : decode cX2_best 24 = .ok (.iload_n 1, 1) := by decide +kernel
theorem dX2_best_25 : decode cX2_best 25 = .ok (.iload 6, 2) := by decide +kernel
theorem dX2_best_27 : decode cX2_best 27 = .ok (.invokestatic 54, 3) := by decide +kernel
theorem dX2_best_30 : decode cX2_best 30 = .ok (.ifCond .eq 6, 3) := by decide +kernel
theorem dX2_best_33 : decode cX2_best 33 = .ok (.goto 79, 3) := by decide +kernel
theorem dX2_best_36 : decode cX2_best 36 = .ok (.aload_n 0, 1) := by decide +kernel
theorem dX2_best_37 : decode cX2_best 37 = .ok (.iload_n 1, 1) := by decide +kernel
theorem dX2_best_38 : decode cX2_best 38 = .ok (.iload 6, 2) := by decide +kernel
theorem dX2_best_40 : decode cX2_best 40 = .ok (.invokestatic 64, 3) := by decide +kernel
theorem dX2_best_43 : decode cX2_best 43 = .ok (.istore 7, 2) := by decide +kernel
theorem dX2_best_45 : decode cX2_best 45 = .ok (.aload_n 0, 1) := by decide +kernel
theorem dX2_best_46 : decode cX2_best 46 = .ok (.iload_n 1, 1) := by decide +kernel
theorem dX2_best_47 : decode cX2_best 47 = .ok (.iload 6, 2) := by decide +kernel
theorem dX2_best_49 : decode cX2_best 49 = .ok (.invokestatic 57, 3) := by decide +kernel
theorem dX2_best_52 : decode cX2_best 52 = .ok (.istore 8, 2) := by decide +kernel
theorem dX2_best_54 : decode cX2_best 54 = .ok (.iload_n 3, 1) := by decide +kernel
theorem dX2_best_55 : decode cX2_best 55 = .ok (.iconst (-1), 1) := by decide +kernel
theorem dX2_best_56 : decode cX2_best 56 = .ok (.if_icmp .eq 24, 3) := by decide +kernel
theorem dX2_best_59 : decode cX2_best 59 = .ok (.iload 7, 2) := by decide +kernel
theorem dX2_best_61 : decode cX2_best 61 = .ok (.iload 4, 2) := by decide +kernel
theorem dX2_best_63 : decode cX2_best 63 = .ok (.if_icmp .lt 17, 3) := by decide +kernel
theorem dX2_best_66 : decode cX2_best 66 = .ok (.iload 7, 2) := by decide +kernel
theorem dX2_best_68 : decode cX2_best 68 = .ok (.iload 4, 2) := by decide +kernel
theorem dX2_best_70 : decode cX2_best 70 = .ok (.if_icmp .ne 14, 3) := by decide +kernel
theorem dX2_best_73 : decode cX2_best 73 = .ok (.iload 8, 2) := by decide +kernel
theorem dX2_best_75 : decode cX2_best 75 = .ok (.iload 5, 2) := by decide +kernel
theorem dX2_best_77 : decode cX2_best 77 = .ok (.if_icmp .le 7, 3) := by decide +kernel
theorem dX2_best_80 : decode cX2_best 80 = .ok (.iconst 1, 1) := by decide +kernel
theorem dX2_best_81 : decode cX2_best 81 = .ok (.goto 4, 3) := by decide +kernel
theorem dX2_best_84 : decode cX2_best 84 = .ok (.iconst 0, 1) := by decide +kernel
theorem dX2_best_85 : decode cX2_best 85 = .ok (.istore 9, 2) := by decide +kernel
theorem dX2_best_87 : decode cX2_best 87 = .ok (.iload 9, 2) := by decide +kernel
theorem dX2_best_89 : decode cX2_best 89 = .ok (.ifCond .eq 23, 3) := by decide +kernel
theorem dX2_best_92 : decode cX2_best 92 = .ok (.iload 8, 2) := by decide +kernel
theorem dX2_best_94 : decode cX2_best 94 = .ok (.aload_n 0, 1) := by decide +kernel
theorem dX2_best_95 : decode cX2_best 95 = .ok (.invokevirtual 60, 3) := by decide +kernel
theorem dX2_best_98 : decode cX2_best 98 = .ok (.if_icmp .lt 14, 3) := by decide +kernel
theorem dX2_best_101 : decode cX2_best 101 = .ok (.iload 6, 2) := by decide +kernel
theorem dX2_best_103 : decode cX2_best 103 = .ok (.istore_n 3, 1) := by decide +kernel
theorem dX2_best_104 : decode cX2_best 104 = .ok (.iload 7, 2) := by decide +kernel
theorem dX2_best_106 : decode cX2_best 106 = .ok (.istore 4, 2) := by decide +kernel
theorem dX2_best_108 : decode cX2_best 108 = .ok (.iload 8, 2) := by decide +kernel
theorem dX2_best_110 : decode cX2_best 110 = .ok (.istore 5, 2) := by decide +kernel
theorem dX2_best_112 : decode cX2_best 112 = .ok (.iinc 6 1, 3) := by decide +kernel
theorem dX2_best_115 : decode cX2_best 115 = .ok (.goto (-98), 3) := by decide +kernel
theorem dX2_best_118 : decode cX2_best 118 = .ok (.iload_n 3, 1) := by decide +kernel
theorem dX2_best_119 : decode cX2_best 119 = .ok (.ireturn, 1) := by decide +kernel
set_option maxRecDepth 200000 in
theorem ggX2_setAll_X4_lineCount : GoodIn wsX2_setAll wsX4_lineCount := goodIn_r _ [5, 6, 113, 114, 115, 116, 117, 118] rfl (by decide +kernel)
set_option maxRecDepth 200000 in
theorem gX2_setAll_X4_lineCount : GoodIn wsX2_setAll (wsV RX2 70 RX4 yX4_lineCount wsX4_lineCount) := goodIn_app (goodIn_of _ (by decide +kernel)) ggX2_setAll_X4_lineCount
set_option maxRecDepth 200000 in
theorem ggX2_setAll_X4_putLabel : GoodIn wsX2_setAll wsX4_putLabel := goodIn_r _ [10, 6, 11, 113, 114, 115, 116, 117, 118] rfl (by decide +kernel)
set_option maxRecDepth 200000 in
theorem gX2_setAll_X4_putLabel : GoodIn wsX2_setAll (wsV RX2 89 RX4 yX4_putLabel wsX4_putLabel) := goodIn_app (goodIn_of _ (by decide +kernel)) ggX2_setAll_X4_putLabel
set_option maxRecDepth 200000 in
theorem ggX2_setAll_X4_lineOfRank : GoodIn wsX2_setAll wsX4_lineOfRank := goodIn_r _ [15, 6, 16, 17, 18, 4, 19, 20, 21, 22, 23, 24, 113, 114, 115, 116, 117, 118] rfl (by decide +kernel)
set_option maxRecDepth 200000 in
theorem gX2_setAll_X4_lineOfRank : GoodIn wsX2_setAll (wsV RX2 93 RX4 yX4_lineOfRank wsX4_lineOfRank) := goodIn_app (goodIn_of _ (by decide +kernel)) ggX2_setAll_X4_lineOfRank
set_option maxRecDepth 200000 in
theorem ggX2_setAll_X2_best : GoodIn wsX2_setAll wsX2_best := goodIn_r _ [28, 29, 30, 31, 4, 32, 6, 33, 34, 35, 27, 36, 37, 38, 39, 40, 41, 42, 43, 44, 45, 46, 47, 48, 49, 50, 51, 52, 24, 53, 54, 55, 56, 57, 58, 59, 60, 61, 62, 63, 64, 65, 66, 67, 68, 69, 70, 71, 72, 73, 74, 75, 76, 77, 78, 79, 80, 81, 82, 83, 84, 85, 86, 87, 88, 89, 90, 91, 92, 1, 2, 3, 5, 93, 94, 95, 96, 11, 97, 98, 99, 100, 101, 102, 103, 104, 105, 106, 107, 108, 109, 110, 111, 112, 113, 114, 115, 116, 117, 118] rfl (by decide +kernel)
set_option maxRecDepth 200000 in
theorem gX2_setAll_X2_best : GoodIn wsX2_setAll (va_wsS RX2 96 yX2_best wsX2_best) := goodIn_app (goodIn_of _ (by decide +kernel)) ggX2_setAll_X2_best
theorem dX2_setAll_0 : decode cX2_setAll 0 = .ok (.aload_n 0, 1) := by decide +kernel
theorem dX2_setAll_1 : decode cX2_setAll 1 = .ok (.invokevirtual 70, 3) := by decide +kernel
theorem dX2_setAll_4 : decode cX2_setAll 4 = .ok (.istore_n 1, 1) := by decide +kernel
theorem dX2_setAll_5 : decode cX2_setAll 5 = .ok (.iconst 0, 1) := by decide +kernel
theorem dX2_setAll_6 : decode cX2_setAll 6 = .ok (.istore_n 2, 1) := by decide +kernel
theorem dX2_setAll_7 : decode cX2_setAll 7 = .ok (.iload_n 2, 1) := by decide +kernel
theorem dX2_setAll_8 : decode cX2_setAll 8 = .ok (.iload_n 1, 1) := by decide +kernel
theorem dX2_setAll_9 : decode cX2_setAll 9 = .ok (.if_icmp .ge 15, 3) := by decide +kernel
theorem dX2_setAll_12 : decode cX2_setAll 12 = .ok (.aload_n 0, 1) := by decide +kernel
theorem dX2_setAll_13 : decode cX2_setAll 13 = .ok (.iload_n 2, 1) := by decide +kernel
theorem dX2_setAll_14 : decode cX2_setAll 14 = .ok (.iconst (-1), 1) := by decide +kernel
theorem dX2_setAll_15 : decode cX2_setAll 15 = .ok (.invokevirtual 89, 3) := by decide +kernel
theorem dX2_setAll_18 : decode cX2_setAll 18 = .ok (.iinc 2 1, 3) := by decide +kernel
theorem dX2_setAll_21 : decode cX2_setAll 21 = .ok (.goto (-14), 3) := by decide +kernel
theorem dX2_setAll_24 : decode cX2_setAll 24 = .ok (.iconst 0, 1) := by decide +kernel
theorem dX2_setAll_25 : decode cX2_setAll 25 = .ok (.istore_n 2, 1) := by decide +kernel
theorem dX2_setAll_26 : decode cX2_setAll 26 = .ok (.iload_n 2, 1) := by decide +kernel
theorem dX2_setAll_27 : decode cX2_setAll 27 = .ok (.iload_n 1, 1) := by decide +kernel
theorem dX2_setAll_28 : decode cX2_setAll 28 = .ok (.if_icmp .ge 25, 3) := by decide +kernel
theorem dX2_setAll_31 : decode cX2_setAll 31 = .ok (.aload_n 0, 1) := by decide +kernel
theorem dX2_setAll_32 : decode cX2_setAll 32 = .ok (.iload_n 2, 1) := by decide +kernel
theorem dX2_setAll_33 : decode cX2_setAll 33 = .ok (.invokevirtual 93, 3) := by decide +kernel
theorem dX2_setAll_36 : decode cX2_setAll 36 = .ok (.istore_n 3, 1) := by decide +kernel
theorem dX2_setAll_37 : decode cX2_setAll 37 = .ok (.aload_n 0, 1) := by decide +kernel
theorem dX2_setAll_38 : decode cX2_setAll 38 = .ok (.iload_n 3, 1) := by decide +kernel
theorem dX2_setAll_39 : decode cX2_setAll 39 = .ok (.aload_n 0, 1) := by decide +kernel
theorem dX2_setAll_40 : decode cX2_setAll 40 = .ok (.iload_n 3, 1) := by decide +kernel
theorem dX2_setAll_41 : decode cX2_setAll 41 = .ok (.invokestatic 96, 3) := by decide +kernel
theorem dX2_setAll_44 : decode cX2_setAll 44 = .ok (.invokevirtual 89, 3) := by decide +kernel
theorem dX2_setAll_47 : decode cX2_setAll 47 = .ok (.iinc 2 1, 3) := by decide +kernel
theorem dX2_setAll_50 : decode cX2_setAll 50 = .ok (.goto (-24), 3) := by decide +kernel
theorem dX2_setAll_53 : decode cX2_setAll 53 = .ok (.return_, 1) := by decide +kernel
set_option maxRecDepth 200000 in
theorem ggX2_countPairsTooNear_X4_lineCount : GoodIn wsX2_countPairsTooNear wsX4_lineCount := goodIn_r _ [5, 6, 57, 58, 59, 60, 61, 62] rfl (by decide +kernel)
set_option maxRecDepth 200000 in
theorem gX2_countPairsTooNear_X4_lineCount : GoodIn wsX2_countPairsTooNear (wsV RX2 70 RX4 yX4_lineCount wsX4_lineCount) := goodIn_app (goodIn_of _ (by decide +kernel)) ggX2_countPairsTooNear_X4_lineCount
set_option maxRecDepth 200000 in
theorem ggX2_countPairsTooNear_X2_areTooNear : GoodIn wsX2_countPairsTooNear wsX2_areTooNear := goodIn_r _ [10, 11, 12, 13, 4, 14, 6, 15, 16, 17, 9, 18, 19, 20, 21, 22, 23, 24, 25, 26, 27, 28, 29, 30, 31, 32, 33, 34, 35, 36, 37, 38, 39, 40, 41, 42, 43, 44, 45, 46, 47, 48, 49, 50, 51, 52, 53, 54, 55, 56, 57, 58, 59, 60, 61, 62] rfl (by decide +kernel)
set_option maxRecDepth 200000 in
theorem gX2_countPairsTooNear_X2_areTooNear : GoodIn wsX2_countPairsTooNear (va_wsS RX2 100 yX2_areTooNear wsX2_areTooNear) := goodIn_app (goodIn_of _ (by decide +kernel)) ggX2_countPairsTooNear_X2_areTooNear
theorem dX2_countPairsTooNear_0 : decode cX2_countPairsTooNear 0 = .ok (.iconst 0, 1) := by decide +kernel
theorem dX2_countPairsTooNear_1 : decode cX2_countPairsTooNear 1 = .ok (.istore_n 1, 1) := by decide +kernel
theorem dX2_countPairsTooNear_2 : decode cX2_countPairsTooNear 2 = .ok (.iconst 0, 1) := by decide +kernel
theorem dX2_countPairsTooNear_3 : decode cX2_countPairsTooNear 3 = .ok (.istore_n 2, 1) := by decide +kernel
theorem dX2_countPairsTooNear_4 : decode cX2_countPairsTooNear 4 = .ok (.iload_n 2, 1) := by decide +kernel
theorem dX2_countPairsTooNear_5 : decode cX2_countPairsTooNear 5 = .ok (.aload_n 0, 1) := by decide +kernel
theorem dX2_countPairsTooNear_6 : decode cX2_countPairsTooNear 6 = .ok (.invokevirtual 70, 3) := by decide +kernel
theorem dX2_countPairsTooNear_9 : decode cX2_countPairsTooNear 9 = .ok (.if_icmp .ge 39, 3) := by decide +kernel
theorem dX2_countPairsTooNear_12 : decode cX2_countPairsTooNear 12 = .ok (.iload_n 2, 1) := by decide +kernel
theorem dX2_countPairsTooNear_13 : decode cX2_countPairsTooNear 13 = .ok (.iconst 1, 1) := by decide +kernel
theorem dX2_countPairsTooNear_14 : decode cX2_countPairsTooNear 14 = .ok (.iadd, 1) := by decide +kernel
theorem dX2_countPairsTooNear_15 : decode cX2_countPairsTooNear 15 = .ok (.istore_n 3, 1) := by decide +kernel
theorem dX2_countPairsTooNear_16 : decode cX2_countPairsTooNear 16 = .ok (.iload_n 3, 1) := by decide +kernel
theorem dX2_countPairsTooNear_17 : decode cX2_countPairsTooNear 17 = .ok (.aload_n 0, 1) := by decide +kernel
theorem dX2_countPairsTooNear_18 : decode cX2_countPairsTooNear 18 = .ok (.invokevirtual 70, 3) := by decide +kernel
theorem dX2_countPairsTooNear_21 : decode cX2_countPairsTooNear 21 = .ok (.if_icmp .ge 21, 3) := by decide +kernel
theorem dX2_countPairsTooNear_24 : decode cX2_countPairsTooNear 24 = .ok (.aload_n 0, 1) := by decide +kernel
theorem dX2_countPairsTooNear_25 : decode cX2_countPairsTooNear 25 = .ok (.iload_n 2, 1) := by decide +kernel
theorem dX2_countPairsTooNear_26 : decode cX2_countPairsTooNear 26 = .ok (.iload_n 3, 1) := by decide +kernel
theorem dX2_countPairsTooNear_27 : decode cX2_countPairsTooNear 27 = .ok (.invokestatic 100, 3) := by decide +kernel
theorem dX2_countPairsTooNear_30 : decode cX2_countPairsTooNear 30 = .ok (.ifCond .eq 6, 3) := by decide +kernel
theorem dX2_countPairsTooNear_33 : decode cX2_countPairsTooNear 33 = .ok (.iinc 1 1, 3) := by decide +kernel
theorem dX2_countPairsTooNear_36 : decode cX2_countPairsTooNear 36 = .ok (.iinc 3 1, 3) := by decide +kernel
theorem dX2_countPairsTooNear_39 : decode cX2_countPairsTooNear 39 = .ok (.goto (-23), 3) := by decide +kernel
theorem dX2_countPairsTooNear_42 : decode cX2_countPairsTooNear 42 = .ok (.iinc 2 1, 3) := by decide +kernel
theorem dX2_countPairsTooNear_45 : decode cX2_countPairsTooNear 45 = .ok (.goto (-41), 3) := by decide +kernel
theorem dX2_countPairsTooNear_48 : decode cX2_countPairsTooNear 48 = .ok (.iload_n 1, 1) := by decide +kernel
theorem dX2_countPairsTooNear_49 : decode cX2_countPairsTooNear 49 = .ok (.ireturn, 1) := by decide +kernel
set_option maxRecDepth 200000 in
theorem ggX2_areTooNear_X4_labelIn : GoodIn wsX2_areTooNear wsX4_labelIn := goodIn_r _ [5, 6, 7, 50, 51, 52, 53, 54, 55] rfl (by decide +kernel)
set_option maxRecDepth 200000 in
theorem gX2_areTooNear_X4_labelIn : GoodIn wsX2_areTooNear (wsV RX2 73 RX4 yX4_labelIn wsX4_labelIn) := goodIn_app (goodIn_of _ (by decide +kernel)) ggX2_areTooNear_X4_labelIn
set_option maxRecDepth 200000 in
theorem ggX2_areTooNear_X2_distanceToLabel : GoodIn wsX2_areTooNear wsX2_distanceToLabel := goodIn_r _ [11, 12, 13, 14, 15, 1, 2, 3, 4, 5, 6, 7, 16, 17, 10, 18, 19, 20, 21, 22, 23, 24, 25, 26, 27, 28, 29, 30, 31, 32, 33, 34, 35, 36, 37, 38, 39, 40, 41, 42, 43, 44, 50, 51, 52, 53, 54, 55] rfl (by decide +kernel)
set_option maxRecDepth 200000 in
theorem gX2_areTooNear_X2_distanceToLabel : GoodIn wsX2_areTooNear (va_wsS RX2 76 yX2_distanceToLabel wsX2_distanceToLabel) := goodIn_app (goodIn_of _ (by decide +kernel)) ggX2_areTooNear_X2_distanceToLabel
set_option maxRecDepth 200000 in
theorem ggX2_areTooNear_X4_gapWidth : GoodIn wsX2_areTooNear wsX4_gapWidth := goodIn_r _ [48, 49, 50, 51, 52, 53, 54, 55] rfl (by decide +kernel)
set_option maxRecDepth 200000 in
theorem gX2_areTooNear_X4_gapWidth : GoodIn wsX2_areTooNear (wsV RX2 60 RX4 yX4_gapWidth wsX4_gapWidth) := goodIn_app (goodIn_of _ (by decide +kernel)) ggX2_areTooNear_X4_gapWidth
theorem dX2_areTooNear_0 : decode cX2_areTooNear 0 = .ok (.aload_n 0, 1) := by decide +kernel
theorem dX2_areTooNear_1 : decode cX2_areTooNear 1 = .ok (.iload_n 1, 1) := by decide +kernel
theorem dX2_areTooNear_2 : decode cX2_areTooNear 2 = .ok (.invokevirtual 73, 3) := by decide +kernel
theorem dX2_areTooNear_5 : decode cX2_areTooNear 5 = .ok (.istore_n 3, 1) := by decide +kernel
theorem dX2_areTooNear_6 : decode cX2_areTooNear 6 = .ok (.iload_n 3, 1) := by decide +kernel
theorem dX2_areTooNear_7 : decode cX2_areTooNear 7 = .ok (.iconst (-1), 1) := by decide +kernel
theorem dX2_areTooNear_8 : decode cX2_areTooNear 8 = .ok (.if_icmp .eq 12, 3) := by decide +kernel
theorem dX2_areTooNear_11 : decode cX2_areTooNear 11 = .ok (.aload_n 0, 1) := by decide +kernel
theorem dX2_areTooNear_12 : decode cX2_areTooNear 12 = .ok (.iload_n 2, 1) := by decide +kernel
theorem dX2_areTooNear_13 : decode cX2_areTooNear 13 = .ok (.invokevirtual 73, 3) := by decide +kernel
theorem dX2_areTooNear_16 : decode cX2_areTooNear 16 = .ok (.iconst (-1), 1) := by decide +kernel
theorem dX2_areTooNear_17 : decode cX2_areTooNear 17 = .ok (.if_icmp .ne 5, 3) := by decide +kernel
theorem dX2_areTooNear_20 : decode cX2_areTooNear 20 = .ok (.iconst 0, 1) := by decide +kernel
theorem dX2_areTooNear_21 : decode cX2_areTooNear 21 = .ok (.ireturn, 1) := by decide +kernel
theorem dX2_areTooNear_22 : decode cX2_areTooNear 22 = .ok (.aload_n 0, 1) := by decide +kernel
theorem dX2_areTooNear_23 : decode cX2_areTooNear 23 = .ok (.iload_n 1, 1) := by decide +kernel
theorem dX2_areTooNear_24 : decode cX2_areTooNear 24 = .ok (.iload_n 3, 1) := by decide +kernel
theorem dX2_areTooNear_25 : decode cX2_areTooNear 25 = .ok (.iload_n 2, 1) := by decide +kernel
theorem dX2_areTooNear_26 : decode cX2_areTooNear 26 = .ok (.invokestatic 76, 3) := by decide +kernel
theorem dX2_areTooNear_29 : decode cX2_areTooNear 29 = .ok (.aload_n 0, 1) := by decide +kernel
theorem dX2_areTooNear_30 : decode cX2_areTooNear 30 = .ok (.invokevirtual 60, 3) := by decide +kernel
theorem dX2_areTooNear_33 : decode cX2_areTooNear 33 = .ok (.if_icmp .ge 7, 3) := by decide +kernel
theorem dX2_areTooNear_36 : decode cX2_areTooNear 36 = .ok (.iconst 1, 1) := by decide +kernel
theorem dX2_areTooNear_37 : decode cX2_areTooNear 37 = .ok (.goto 4, 3) := by decide +kernel
theorem dX2_areTooNear_40 : decode cX2_areTooNear 40 = .ok (.iconst 0, 1) := by decide +kernel
theorem dX2_areTooNear_41 : decode cX2_areTooNear 41 = .ok (.ireturn, 1) := by decide +kernel
theorem dX3_init_0 : decode cX3_init 0 = .ok (.aload_n 0, 1) := by decide +kernel
theorem dX3_init_1 : decode cX3_init 1 = .ok (.invokespecial 3, 3) := by decide +kernel
theorem dX3_init_4 : decode cX3_init 4 = .ok (.aload_n 0, 1) := by decide +kernel
theorem dX3_init_5 : decode cX3_init 5 = .ok (.bipush 60, 2) := by decide +kernel
theorem dX3_init_7 : decode cX3_init 7 = .ok (.newarray .int, 2) := by decide +kernel
theorem dX3_init_9 : decode cX3_init 9 = .ok (.putfield 11, 3) := by decide +kernel
theorem dX3_init_12 : decode cX3_init 12 = .ok (.return_, 1) := by decide +kernel
theorem dX3_size_0 : decode cX3_size 0 = .ok (.aload_n 0, 1) := by decide +kernel
theorem dX3_size_1 : decode cX3_size 1 = .ok (.getfield 15, 3) := by decide +kernel
theorem dX3_size_4 : decode cX3_size 4 = .ok (.ireturn, 1) := by decide +kernel
theorem dX3_isFull_0 : decode cX3_isFull 0 = .ok (.aload_n 0, 1) := by decide +kernel
theorem dX3_isFull_1 : decode cX3_isFull 1 = .ok (.getfield 15, 3) := by decide +kernel
theorem dX3_isFull_4 : decode cX3_isFull 4 = .ok (.bipush 60, 2) := by decide +kernel
theorem dX3_isFull_6 : decode cX3_isFull 6 = .ok (.if_icmp .lt 7, 3) := by decide +kernel
theorem dX3_isFull_9 : decode cX3_isFull 9 = .ok (.iconst 1, 1) := by decide +kernel
theorem dX3_isFull_10 : decode cX3_isFull 10 = .ok (.goto 4, 3) := by decide +kernel
theorem dX3_isFull_13 : decode cX3_isFull 13 = .ok (.iconst 0, 1) := by decide +kernel
theorem dX3_isFull_14 : decode cX3_isFull 14 = .ok (.ireturn, 1) := by decide +kernel
set_option maxRecDepth 200000 in
theorem ggX3_add_X3_isFull : GoodIn wsX3_add wsX3_isFull := goodIn_r _ [7, 2, 8, 9, 10, 11, 12, 13, 14, 15] rfl (by decide +kernel)
set_option maxRecDepth 200000 in
theorem gX3_add_X3_isFull : GoodIn wsX3_add (wsV RX3 19 RX3 yX3_isFull wsX3_isFull) := goodIn_app (goodIn_of _ (by decide +kernel)) ggX3_add_X3_isFull
theorem dX3_add_0 : decode cX3_add 0 = .ok (.aload_n 0, 1) := by decide +kernel
theorem dX3_add_1 : decode cX3_add 1 = .ok (.invokevirtual 19, 3) := by decide +kernel
theorem dX3_add_4 : decode cX3_add 4 = .ok (.ifCond .ne 23, 3) := by decide +kernel
theorem dX3_add_7 : decode cX3_add 7 = .ok (.aload_n 0, 1) := by decide +kernel
theorem dX3_add_8 : decode cX3_add 8 = .ok (.getfield 11, 3) := by decide +kernel
theorem dX3_add_11 : decode cX3_add 11 = .ok (.aload_n 0, 1) := by decide +kernel
theorem dX3_add_12 : decode cX3_add 12 = .ok (.getfield 15, 3) := by decide +kernel
theorem dX3_add_15 : decode cX3_add 15 = .ok (.iload_n 1, 1) := by decide +kernel
theorem dX3_add_16 : decode cX3_add 16 = .ok (.iastore, 1) := by decide +kernel
theorem dX3_add_17 : decode cX3_add 17 = .ok (.aload_n 0, 1) := by decide +kernel
theorem dX3_add_18 : decode cX3_add 18 = .ok (.dup, 1) := by decide +kernel
theorem dX3_add_19 : decode cX3_add 19 = .ok (.getfield 15, 3) := by decide +kernel
theorem dX3_add_22 : decode cX3_add 22 = .ok (.iconst 1, 1) := by decide +kernel
theorem dX3_add_23 : decode cX3_add 23 = .ok (.iadd, 1) := by decide +kernel
theorem dX3_add_24 : decode cX3_add 24 = .ok (.putfield 15, 3) := by decide +kernel
theorem dX3_add_27 : decode cX3_add 27 = .ok (.return_, 1) := by decide +kernel
theorem dX3_empty_0 : decode cX3_empty 0 = .ok (.aload_n 0, 1) := by decide +kernel
theorem dX3_empty_1 : decode cX3_empty 1 = .ok (.iconst 0, 1) := by decide +kernel
theorem dX3_empty_2 : decode cX3_empty 2 = .ok (.putfield 15, 3) := by decide +kernel
theorem dX3_empty_5 : decode cX3_empty 5 = .ok (.return_, 1) := by decide +kernel
theorem dX3_kind_0 : decode cX3_kind 0 = .ok (.aload_n 0, 1) := by decide +kernel
theorem dX3_kind_1 : decode cX3_kind 1 = .ok (.getfield 23, 3) := by decide +kernel
theorem dX3_kind_4 : decode cX3_kind 4 = .ok (.ireturn, 1) := by decide +kernel
theorem dX3_firstNumber_0 : decode cX3_firstNumber 0 = .ok (.aload_n 0, 1) := by decide +kernel
theorem dX3_firstNumber_1 : decode cX3_firstNumber 1 = .ok (.getfield 26, 3) := by decide +kernel
theorem dX3_firstNumber_4 : decode cX3_firstNumber 4 = .ok (.ireturn, 1) := by decide +kernel
theorem dX3_secondNumber_0 : decode cX3_secondNumber 0 = .ok (.aload_n 0, 1) := by decide +kernel
theorem dX3_secondNumber_1 : decode cX3_secondNumber 1 = .ok (.getfield 29, 3) := by decide +kernel
theorem dX3_secondNumber_4 : decode cX3_secondNumber 4 = .ok (.ireturn, 1) := by decide +kernel
theorem dX3_directionCount_0 : decode cX3_directionCount 0 = .ok (.aload_n 0, 1) := by decide +kernel
theorem dX3_directionCount_1 : decode cX3_directionCount 1 = .ok (.getfield 32, 3) := by decide +kernel
theorem dX3_directionCount_4 : decode cX3_directionCount 4 = .ok (.ireturn, 1) := by decide +kernel
set_option maxRecDepth 200000 in
theorem ggX3_directionAt_X3_digitAt : GoodIn wsX3_directionAt wsX3_digitAt := goodIn_r _ [6, 7, 8, 9, 5, 10, 11, 12, 13, 14, 15, 16, 17, 18, 19, 20] rfl (by decide +kernel)
set_option maxRecDepth 200000 in
theorem gX3_directionAt_X3_digitAt : GoodIn wsX3_directionAt (wsV RX3 38 RX3 yX3_digitAt wsX3_digitAt) := goodIn_app (goodIn_of _ (by decide +kernel)) ggX3_directionAt_X3_digitAt
theorem dX3_directionAt_0 : decode cX3_directionAt 0 = .ok (.aload_n 0, 1) := by decide +kernel
theorem dX3_directionAt_1 : decode cX3_directionAt 1 = .ok (.aload_n 0, 1) := by decide +kernel
theorem dX3_directionAt_2 : decode cX3_directionAt 2 = .ok (.getfield 35, 3) := by decide +kernel
theorem dX3_directionAt_5 : decode cX3_directionAt 5 = .ok (.iload_n 1, 1) := by decide +kernel
theorem dX3_directionAt_6 : decode cX3_directionAt 6 = .ok (.iadd, 1) := by decide +kernel
theorem dX3_directionAt_7 : decode cX3_directionAt 7 = .ok (.invokevirtual 38, 3) := by decide +kernel
theorem dX3_directionAt_10 : decode cX3_directionAt 10 = .ok (.ireturn, 1) := by decide +kernel
set_option maxRecDepth 200000 in
theorem ggX3_isValid_X3_rewind : GoodIn wsX3_isValid wsX3_rewind := goodIn_r _ [7, 1, 49, 50, 51, 52, 53, 54, 55, 56] rfl (by decide +kernel)
set_option maxRecDepth 200000 in
theorem gX3_isValid_X3_rewind : GoodIn wsX3_isValid (wsV RX3 42 RX3 yX3_rewind wsX3_rewind) := goodIn_app (goodIn_of _ (by decide +kernel)) ggX3_isValid_X3_rewind
set_option maxRecDepth 200000 in
theorem ggX3_isValid_X3_readNext : GoodIn wsX3_isValid wsX3_readNext := goodIn_r _ [11, 1, 12, 13, 14, 15, 6, 16, 17, 18, 19, 20, 2, 21, 22, 23, 24, 25, 26, 27, 28, 29, 30, 31, 32, 33, 34, 35, 36, 37, 38, 39, 40, 41, 42, 43, 44, 45, 46, 47, 48, 49, 50, 51, 52, 53, 54, 55, 56] rfl (by decide +kernel)
set_option maxRecDepth 200000 in
theorem gX3_isValid_X3_readNext : GoodIn wsX3_isValid (wsV RX3 45 RX3 yX3_readNext wsX3_readNext) := goodIn_app (goodIn_of _ (by decide +kernel)) ggX3_isValid_X3_readNext
theorem dX3_isValid_0 : decode cX3_isValid 0 = .ok (.aload_n 0, 1) := by decide +kernel
theorem dX3_isValid_1 : decode cX3_isValid 1 = .ok (.invokevirtual 42, 3) := by decide +kernel
theorem dX3_isValid_4 : decode cX3_isValid 4 = .ok (.iconst 0, 1) := by decide +kernel
theorem dX3_isValid_5 : decode cX3_isValid 5 = .ok (.istore_n 1, 1) := by decide +kernel
theorem dX3_isValid_6 : decode cX3_isValid 6 = .ok (.iload_n 1, 1) := by decide +kernel
theorem dX3_isValid_7 : decode cX3_isValid 7 = .ok (.bipush 60, 2) := by decide +kernel
theorem dX3_isValid_9 : decode cX3_isValid 9 = .ok (.if_icmp .ge 29, 3) := by decide +kernel
theorem dX3_isValid_12 : decode cX3_isValid 12 = .ok (.aload_n 0, 1) := by decide +kernel
theorem dX3_isValid_13 : decode cX3_isValid 13 = .ok (.invokevirtual 45, 3) := by decide +kernel
theorem dX3_isValid_16 : decode cX3_isValid 16 = .ok (.ifCond .eq 22, 3) := by decide +kernel
theorem dX3_isValid_19 : decode cX3_isValid 19 = .ok (.aload_n 0, 1) := by decide +kernel
theorem dX3_isValid_20 : decode cX3_isValid 20 = .ok (.getfield 48, 3) := by decide +kernel
theorem dX3_isValid_23 : decode cX3_isValid 23 = .ok (.aload_n 0, 1) := by decide +kernel
theorem dX3_isValid_24 : decode cX3_isValid 24 = .ok (.getfield 15, 3) := by decide +kernel
theorem dX3_isValid_27 : decode cX3_isValid 27 = .ok (.if_icmp .ne 5, 3) := by decide +kernel
theorem dX3_isValid_30 : decode cX3_isValid 30 = .ok (.iconst 1, 1) := by decide +kernel
theorem dX3_isValid_31 : decode cX3_isValid 31 = .ok (.ireturn, 1) := by decide +kernel
theorem dX3_isValid_32 : decode cX3_isValid 32 = .ok (.iinc 1 1, 3) := by decide +kernel
theorem dX3_isValid_35 : decode cX3_isValid 35 = .ok (.goto (-29), 3) := by decide +kernel
theorem dX3_isValid_38 : decode cX3_isValid 38 = .ok (.iconst 0, 1) := by decide +kernel
theorem dX3_isValid_39 : decode cX3_isValid 39 = .ok (.ireturn, 1) := by decide +kernel
set_option maxRecDepth 200000 in
theorem ggX3_firstError_X3_isValid : GoodIn wsX3_firstError wsX3_isValid := goodIn_r _ [6, 1, 7, 8, 9, 10, 5, 11, 12, 13, 14, 15, 16, 17, 18, 19, 20, 21, 22, 23, 24, 25, 26, 27, 28, 29, 30, 31, 32, 33, 34, 35, 36, 37, 38, 39, 40, 41, 42, 43, 44, 45, 46, 47, 48, 49, 50, 51, 52, 53, 54, 55, 56, 57, 58, 59, 60] rfl (by decide +kernel)
set_option maxRecDepth 200000 in
theorem gX3_firstError_X3_isValid : GoodIn wsX3_firstError (wsV RX3 51 RX3 yX3_isValid wsX3_isValid) := goodIn_app (goodIn_of _ (by decide +kernel)) ggX3_firstError_X3_isValid
theorem dX3_firstError_0 : decode cX3_firstError 0 = .ok (.aload_n 0, 1) := by decide +kernel
theorem dX3_firstError_1 : decode cX3_firstError 1 = .ok (.invokevirtual 51, 3) := by decide +kernel
theorem dX3_firstError_4 : decode cX3_firstError 4 = .ok (.pop, 1) := by decide +kernel
theorem dX3_firstError_5 : decode cX3_firstError 5 = .ok (.aload_n 0, 1) := by decide +kernel
theorem dX3_firstError_6 : decode cX3_firstError 6 = .ok (.getfield 48, 3) := by decide +kernel
theorem dX3_firstError_9 : decode cX3_firstError 9 = .ok (.ireturn, 1) := by decide +kernel
theorem dX3_rewind_0 : decode cX3_rewind 0 = .ok (.aload_n 0, 1) := by decide +kernel
theorem dX3_rewind_1 : decode cX3_rewind 1 = .ok (.iconst 0, 1) := by decide +kernel
theorem dX3_rewind_2 : decode cX3_rewind 2 = .ok (.putfield 48, 3) := by decide +kernel
theorem dX3_rewind_5 : decode cX3_rewind 5 = .ok (.return_, 1) := by decide +kernel
set_option maxRecDepth 200000 in
theorem ggX3_readNext_X3_pass : GoodIn wsX3_readNext wsX3_pass := goodIn_r _ [7, 1, 8, 9, 10, 6, 11, 12, 13, 41, 42, 43, 44, 45, 46, 47, 48] rfl (by decide +kernel)
set_option maxRecDepth 200000 in
theorem gX3_readNext_X3_pass : GoodIn wsX3_readNext (wsV RX3 54 RX3 yX3_pass wsX3_pass) := goodIn_app (goodIn_of _ (by decide +kernel)) ggX3_readNext_X3_pass
set_option maxRecDepth 200000 in
theorem ggX3_readNext_X3_signAt : GoodIn wsX3_readNext wsX3_signAt := goodIn_r _ [11, 12, 13, 41, 42, 43, 44, 45, 46, 47, 48] rfl (by decide +kernel)
set_option maxRecDepth 200000 in
theorem gX3_readNext_X3_signAt : GoodIn wsX3_readNext (wsV RX3 58 RX3 yX3_signAt wsX3_signAt) := goodIn_app (goodIn_of _ (by decide +kernel)) ggX3_readNext_X3_signAt
set_option maxRecDepth 200000 in
theorem ggX3_readNext_X3_readFirst : GoodIn wsX3_readNext wsX3_readFirst := goodIn_r _ [17, 18, 19, 20, 21, 6, 22, 1, 23, 24, 25, 26, 8, 9, 10, 11, 12, 13, 41, 42, 43, 44, 45, 46, 47, 48] rfl (by decide +kernel)
set_option maxRecDepth 200000 in
theorem gX3_readNext_X3_readFirst : GoodIn wsX3_readNext (wsV RX3 61 RX3 yX3_readFirst wsX3_readFirst) := goodIn_app (goodIn_of _ (by decide +kernel)) ggX3_readNext_X3_readFirst
set_option maxRecDepth 200000 in
theorem ggX3_readNext_X3_readSecond : GoodIn wsX3_readNext wsX3_readSecond := goodIn_r _ [30, 31, 19, 20, 21, 6, 22, 1, 23, 24, 25, 26, 8, 9, 10, 11, 12, 13, 41, 42, 43, 44, 45, 46, 47, 48] rfl (by decide +kernel)
set_option maxRecDepth 200000 in
theorem gX3_readNext_X3_readSecond : GoodIn wsX3_readNext (wsV RX3 65 RX3 yX3_readSecond wsX3_readSecond) := goodIn_app (goodIn_of _ (by decide +kernel)) ggX3_readNext_X3_readSecond
set_option maxRecDepth 200000 in
theorem ggX3_readNext_X3_readDirections : GoodIn wsX3_readNext wsX3_readDirections := goodIn_r _ [35, 1, 36, 37, 23, 24, 25, 6, 26, 8, 9, 10, 11, 12, 13, 38, 39, 40, 41, 42, 43, 44, 45, 46, 47, 48] rfl (by decide +kernel)
set_option maxRecDepth 200000 in
theorem gX3_readNext_X3_readDirections : GoodIn wsX3_readNext (wsV RX3 68 RX3 yX3_readDirections wsX3_readDirections) := goodIn_app (goodIn_of _ (by decide +kernel)) ggX3_readNext_X3_readDirections
theorem dX3_readNext_0 : decode cX3_readNext 0 = .ok (.aload_n 0, 1) := by decide +kernel
theorem dX3_readNext_1 : decode cX3_readNext 1 = .ok (.getfield 48, 3) := by decide +kernel
theorem dX3_readNext_4 : decode cX3_readNext 4 = .ok (.ifCond .le 14, 3) := by decide +kernel
theorem dX3_readNext_7 : decode cX3_readNext 7 = .ok (.aload_n 0, 1) := by decide +kernel
theorem dX3_readNext_8 : decode cX3_readNext 8 = .ok (.bipush 59, 2) := by decide +kernel
theorem dX3_readNext_10 : decode cX3_readNext 10 = .ok (.invokevirtual 54, 3) := by decide +kernel
theorem dX3_readNext_13 : decode cX3_readNext 13 = .ok (.ifCond .ne 5, 3) := by decide +kernel
theorem dX3_readNext_16 : decode cX3_readNext 16 = .ok (.iconst 0, 1) := by decide +kernel
theorem dX3_readNext_17 : decode cX3_readNext 17 = .ok (.ireturn, 1) := by decide +kernel
theorem dX3_readNext_18 : decode cX3_readNext 18 = .ok (.aload_n 0, 1) := by decide +kernel
theorem dX3_readNext_19 : decode cX3_readNext 19 = .ok (.aload_n 0, 1) := by decide +kernel
theorem dX3_readNext_20 : decode cX3_readNext 20 = .ok (.aload_n 0, 1) := by decide +kernel
theorem dX3_readNext_21 : decode cX3_readNext 21 = .ok (.getfield 48, 3) := by decide +kernel
theorem dX3_readNext_24 : decode cX3_readNext 24 = .ok (.invokevirtual 58, 3) := by decide +kernel
theorem dX3_readNext_27 : decode cX3_readNext 27 = .ok (.putfield 23, 3) := by decide +kernel
theorem dX3_readNext_30 : decode cX3_readNext 30 = .ok (.aload_n 0, 1) := by decide +kernel
theorem dX3_readNext_31 : decode cX3_readNext 31 = .ok (.getfield 23, 3) := by decide +kernel
theorem dX3_readNext_34 : decode cX3_readNext 34 = .ok (.tableswitch 274 97 119 #[267, 215, 274, 274, 274, 274, 242, 274, 274, 274, 274, 172, 274, 106, 274, 274, 274, 274, 150, 274, 215, 274, 215], 106) := by decide +kernel
theorem dX3_readNext_140 : decode cX3_readNext 140 = .ok (.aload_n 0, 1) := by decide +kernel
theorem dX3_readNext_141 : decode cX3_readNext 141 = .ok (.bipush 110, 2) := by decide +kernel
theorem dX3_readNext_143 : decode cX3_readNext 143 = .ok (.invokevirtual 54, 3) := by decide +kernel
theorem dX3_readNext_146 : decode cX3_readNext 146 = .ok (.ifCond .eq 36, 3) := by decide +kernel
theorem dX3_readNext_149 : decode cX3_readNext 149 = .ok (.aload_n 0, 1) := by decide +kernel
theorem dX3_readNext_150 : decode cX3_readNext 150 = .ok (.iconst 0, 1) := by decide +kernel
theorem dX3_readNext_151 : decode cX3_readNext 151 = .ok (.bipush 99, 2) := by decide +kernel
theorem dX3_readNext_153 : decode cX3_readNext 153 = .ok (.invokevirtual 61, 3) := by decide +kernel
theorem dX3_readNext_156 : decode cX3_readNext 156 = .ok (.ifCond .eq 26, 3) := by decide +kernel
theorem dX3_readNext_159 : decode cX3_readNext 159 = .ok (.aload_n 0, 1) := by decide +kernel
theorem dX3_readNext_160 : decode cX3_readNext 160 = .ok (.bipush 64, 2) := by decide +kernel
theorem dX3_readNext_162 : decode cX3_readNext 162 = .ok (.invokevirtual 54, 3) := by decide +kernel
theorem dX3_readNext_165 : decode cX3_readNext 165 = .ok (.ifCond .eq 17, 3) := by decide +kernel
theorem dX3_readNext_168 : decode cX3_readNext 168 = .ok (.aload_n 0, 1) := by decide +kernel
theorem dX3_readNext_169 : decode cX3_readNext 169 = .ok (.sipush 383, 3) := by decide +kernel
theorem dX3_readNext_172 : decode cX3_readNext 172 = .ok (.invokevirtual 65, 3) := by decide +kernel
theorem dX3_readNext_175 : decode cX3_readNext 175 = .ok (.ifCond .eq 7, 3) := by decide +kernel
theorem dX3_readNext_178 : decode cX3_readNext 178 = .ok (.iconst 1, 1) := by decide +kernel
theorem dX3_readNext_179 : decode cX3_readNext 179 = .ok (.goto 4, 3) := by decide +kernel
theorem dX3_readNext_182 : decode cX3_readNext 182 = .ok (.iconst 0, 1) := by decide +kernel
theorem dX3_readNext_183 : decode cX3_readNext 183 = .ok (.ireturn, 1) := by decide +kernel
theorem dX3_readNext_184 : decode cX3_readNext 184 = .ok (.aload_n 0, 1) := by decide +kernel
theorem dX3_readNext_185 : decode cX3_readNext 185 = .ok (.bipush 115, 2) := by decide +kernel
theorem dX3_readNext_187 : decode cX3_readNext 187 = .ok (.invokevirtual 54, 3) := by decide +kernel
theorem dX3_readNext_190 : decode cX3_readNext 190 = .ok (.ifCond .eq 14, 3) := by decide +kernel
theorem dX3_readNext_193 : decode cX3_readNext 193 = .ok (.aload_n 0, 1) := by decide +kernel
theorem dX3_readNext_194 : decode cX3_readNext 194 = .ok (.invokevirtual 68, 3) := by decide +kernel
theorem dX3_readNext_197 : decode cX3_readNext 197 = .ok (.ifCond .eq 7, 3) := by decide +kernel
theorem dX3_readNext_200 : decode cX3_readNext 200 = .ok (.iconst 1, 1) := by decide +kernel
theorem dX3_readNext_201 : decode cX3_readNext 201 = .ok (.goto 4, 3) := by decide +kernel
theorem dX3_readNext_204 : decode cX3_readNext 204 = .ok (.iconst 0, 1) := by decide +kernel
theorem dX3_readNext_205 : decode cX3_readNext 205 = .ok (.ireturn, 1) := by decide +kernel
theorem dX3_readNext_206 : decode cX3_readNext 206 = .ok (.aload_n 0, 1) := by decide +kernel
theorem dX3_readNext_207 : decode cX3_readNext 207 = .ok (.bipush 108, 2) := by decide +kernel
theorem dX3_readNext_209 : decode cX3_readNext 209 = .ok (.invokevirtual 54, 3) := by decide +kernel
theorem dX3_readNext_212 : decode cX3_readNext 212 = .ok (.ifCond .eq 35, 3) := by decide +kernel
theorem dX3_readNext_215 : decode cX3_readNext 215 = .ok (.aload_n 0, 1) := by decide +kernel
theorem dX3_readNext_216 : decode cX3_readNext 216 = .ok (.iconst 0, 1) := by decide +kernel
theorem dX3_readNext_217 : decode cX3_readNext 217 = .ok (.bipush 7, 2) := by decide +kernel
theorem dX3_readNext_219 : decode cX3_readNext 219 = .ok (.invokevirtual 61, 3) := by decide +kernel
theorem dX3_readNext_222 : decode cX3_readNext 222 = .ok (.ifCond .eq 25, 3) := by decide +kernel
theorem dX3_readNext_225 : decode cX3_readNext 225 = .ok (.aload_n 0, 1) := by decide +kernel
theorem dX3_readNext_226 : decode cX3_readNext 226 = .ok (.bipush 46, 2) := by decide +kernel
theorem dX3_readNext_228 : decode cX3_readNext 228 = .ok (.invokevirtual 54, 3) := by decide +kernel
theorem dX3_readNext_231 : decode cX3_readNext 231 = .ok (.ifCond .eq 16, 3) := by decide +kernel
theorem dX3_readNext_234 : decode cX3_readNext 234 = .ok (.aload_n 0, 1) := by decide +kernel
theorem dX3_readNext_235 : decode cX3_readNext 235 = .ok (.bipush 59, 2) := by decide +kernel
theorem dX3_readNext_237 : decode cX3_readNext 237 = .ok (.invokevirtual 65, 3) := by decide +kernel
theorem dX3_readNext_240 : decode cX3_readNext 240 = .ok (.ifCond .eq 7, 3) := by decide +kernel
theorem dX3_readNext_243 : decode cX3_readNext 243 = .ok (.iconst 1, 1) := by decide +kernel
theorem dX3_readNext_244 : decode cX3_readNext 244 = .ok (.goto 4, 3) := by decide +kernel
theorem dX3_readNext_247 : decode cX3_readNext 247 = .ok (.iconst 0, 1) := by decide +kernel
theorem dX3_readNext_248 : decode cX3_readNext 248 = .ok (.ireturn, 1) := by decide +kernel
theorem dX3_readNext_249 : decode cX3_readNext 249 = .ok (.aload_n 0, 1) := by decide +kernel
theorem dX3_readNext_250 : decode cX3_readNext 250 = .ok (.aload_n 0, 1) := by decide +kernel
theorem dX3_readNext_251 : decode cX3_readNext 251 = .ok (.getfield 23, 3) := by decide +kernel
theorem dX3_readNext_254 : decode cX3_readNext 254 = .ok (.invokevirtual 54, 3) := by decide +kernel
theorem dX3_readNext_257 : decode cX3_readNext 257 = .ok (.ifCond .eq 17, 3) := by decide +kernel
theorem dX3_readNext_260 : decode cX3_readNext 260 = .ok (.aload_n 0, 1) := by decide +kernel
theorem dX3_readNext_261 : decode cX3_readNext 261 = .ok (.iconst 0, 1) := by decide +kernel
theorem dX3_readNext_262 : decode cX3_readNext 262 = .ok (.bipush 7, 2) := by decide +kernel
theorem dX3_readNext_264 : decode cX3_readNext 264 = .ok (.invokevirtual 61, 3) := by decide +kernel
theorem dX3_readNext_267 : decode cX3_readNext 267 = .ok (.ifCond .eq 7, 3) := by decide +kernel
theorem dX3_readNext_270 : decode cX3_readNext 270 = .ok (.iconst 1, 1) := by decide +kernel
theorem dX3_readNext_271 : decode cX3_readNext 271 = .ok (.goto 4, 3) := by decide +kernel
theorem dX3_readNext_274 : decode cX3_readNext 274 = .ok (.iconst 0, 1) := by decide +kernel
theorem dX3_readNext_275 : decode cX3_readNext 275 = .ok (.ireturn, 1) := by decide +kernel
theorem dX3_readNext_276 : decode cX3_readNext 276 = .ok (.aload_n 0, 1) := by decide +kernel
theorem dX3_readNext_277 : decode cX3_readNext 277 = .ok (.bipush 103, 2) := by decide +kernel
theorem dX3_readNext_279 : decode cX3_readNext 279 = .ok (.invokevirtual 54, 3) := by decide +kernel
theorem dX3_readNext_282 : decode cX3_readNext 282 = .ok (.ifCond .eq 17, 3) := by decide +kernel
theorem dX3_readNext_285 : decode cX3_readNext 285 = .ok (.aload_n 0, 1) := by decide +kernel
theorem dX3_readNext_286 : decode cX3_readNext 286 = .ok (.iconst 1, 1) := by decide +kernel
theorem dX3_readNext_287 : decode cX3_readNext 287 = .ok (.bipush 6, 2) := by decide +kernel
theorem dX3_readNext_289 : decode cX3_readNext 289 = .ok (.invokevirtual 61, 3) := by decide +kernel
theorem dX3_readNext_292 : decode cX3_readNext 292 = .ok (.ifCond .eq 7, 3) := by decide +kernel
theorem dX3_readNext_295 : decode cX3_readNext 295 = .ok (.iconst 1, 1) := by decide +kernel
theorem dX3_readNext_296 : decode cX3_readNext 296 = .ok (.goto 4, 3) := by decide +kernel
theorem dX3_readNext_299 : decode cX3_readNext 299 = .ok (.iconst 0, 1) := by decide +kernel
theorem dX3_readNext_300 : decode cX3_readNext 300 = .ok (.ireturn, 1) := by decide +kernel
theorem dX3_readNext_301 : decode cX3_readNext 301 = .ok (.aload_n 0, 1) := by decide +kernel
theorem dX3_readNext_302 : decode cX3_readNext 302 = .ok (.bipush 97, 2) := by decide +kernel
theorem dX3_readNext_304 : decode cX3_readNext 304 = .ok (.invokevirtual 54, 3) := by decide +kernel
theorem dX3_readNext_307 : decode cX3_readNext 307 = .ok (.ireturn, 1) := by decide +kernel
theorem dX3_readNext_308 : decode cX3_readNext 308 = .ok (.iconst 0, 1) := by decide +kernel
theorem dX3_readNext_309 : decode cX3_readNext 309 = .ok (.ireturn, 1) := by decide +kernel
theorem dX3_signAt_0 : decode cX3_signAt 0 = .ok (.iload_n 1, 1) := by decide +kernel
theorem dX3_signAt_1 : decode cX3_signAt 1 = .ok (.ifCond .lt 26, 3) := by decide +kernel
theorem dX3_signAt_4 : decode cX3_signAt 4 = .ok (.iload_n 1, 1) := by decide +kernel
theorem dX3_signAt_5 : decode cX3_signAt 5 = .ok (.aload_n 0, 1) := by decide +kernel
theorem dX3_signAt_6 : decode cX3_signAt 6 = .ok (.getfield 15, 3) := by decide +kernel
theorem dX3_signAt_9 : decode cX3_signAt 9 = .ok (.if_icmp .ge 18, 3) := by decide +kernel
theorem dX3_signAt_12 : decode cX3_signAt 12 = .ok (.iload_n 1, 1) := by decide +kernel
theorem dX3_signAt_13 : decode cX3_signAt 13 = .ok (.bipush 60, 2) := by decide +kernel
theorem dX3_signAt_15 : decode cX3_signAt 15 = .ok (.if_icmp .ge 12, 3) := by decide +kernel
theorem dX3_signAt_18 : decode cX3_signAt 18 = .ok (.aload_n 0, 1) := by decide +kernel
theorem dX3_signAt_19 : decode cX3_signAt 19 = .ok (.getfield 11, 3) := by decide +kernel
theorem dX3_signAt_22 : decode cX3_signAt 22 = .ok (.iload_n 1, 1) := by decide +kernel
theorem dX3_signAt_23 : decode cX3_signAt 23 = .ok (.iaload, 1) := by decide +kernel
theorem dX3_signAt_24 : decode cX3_signAt 24 = .ok (.goto 4, 3) := by decide +kernel
theorem dX3_signAt_27 : decode cX3_signAt 27 = .ok (.iconst (-1), 1) := by decide +kernel
theorem dX3_signAt_28 : decode cX3_signAt 28 = .ok (.ireturn, 1) := by decide +kernel
set_option maxRecDepth 200000 in
theorem ggX3_digitAt_X3_signAt : GoodIn wsX3_digitAt wsX3_signAt := goodIn_r _ [5, 6, 7, 8, 9, 10, 11, 12, 13, 14, 15] rfl (by decide +kernel)
set_option maxRecDepth 200000 in
theorem gX3_digitAt_X3_signAt : GoodIn wsX3_digitAt (wsV RX3 58 RX3 yX3_signAt wsX3_signAt) := goodIn_app (goodIn_of _ (by decide +kernel)) ggX3_digitAt_X3_signAt
theorem dX3_digitAt_0 : decode cX3_digitAt 0 = .ok (.aload_n 0, 1) := by decide +kernel
theorem dX3_digitAt_1 : decode cX3_digitAt 1 = .ok (.iload_n 1, 1) := by decide +kernel
theorem dX3_digitAt_2 : decode cX3_digitAt 2 = .ok (.invokevirtual 58, 3) := by decide +kernel
theorem dX3_digitAt_5 : decode cX3_digitAt 5 = .ok (.istore_n 2, 1) := by decide +kernel
theorem dX3_digitAt_6 : decode cX3_digitAt 6 = .ok (.iload_n 2, 1) := by decide +kernel
theorem dX3_digitAt_7 : decode cX3_digitAt 7 = .ok (.bipush 48, 2) := by decide +kernel
theorem dX3_digitAt_9 : decode cX3_digitAt 9 = .ok (.if_icmp .lt 16, 3) := by decide +kernel
theorem dX3_digitAt_12 : decode cX3_digitAt 12 = .ok (.iload_n 2, 1) := by decide +kernel
theorem dX3_digitAt_13 : decode cX3_digitAt 13 = .ok (.bipush 57, 2) := by decide +kernel
theorem dX3_digitAt_15 : decode cX3_digitAt 15 = .ok (.if_icmp .gt 10, 3) := by decide +kernel
theorem dX3_digitAt_18 : decode cX3_digitAt 18 = .ok (.iload_n 2, 1) := by decide +kernel
theorem dX3_digitAt_19 : decode cX3_digitAt 19 = .ok (.bipush 48, 2) := by decide +kernel
theorem dX3_digitAt_21 : decode cX3_digitAt 21 = .ok (.isub, 1) := by decide +kernel
theorem dX3_digitAt_22 : decode cX3_digitAt 22 = .ok (.goto 4, 3) := by decide +kernel
theorem dX3_digitAt_25 : decode cX3_digitAt 25 = .ok (.iconst (-1), 1) := by decide +kernel
theorem dX3_digitAt_26 : decode cX3_digitAt 26 = .ok (.ireturn, 1) := by decide +kernel
set_option maxRecDepth 200000 in
theorem ggX3_pass_X3_signAt : GoodIn wsX3_pass wsX3_signAt := goodIn_r _ [6, 7, 8, 9, 10, 11, 12, 13, 14, 15, 16] rfl (by decide +kernel)
set_option maxRecDepth 200000 in
theorem gX3_pass_X3_signAt : GoodIn wsX3_pass (wsV RX3 58 RX3 yX3_signAt wsX3_signAt) := goodIn_app (goodIn_of _ (by decide +kernel)) ggX3_pass_X3_signAt
theorem dX3_pass_0 : decode cX3_pass 0 = .ok (.aload_n 0, 1) := by decide +kernel
theorem dX3_pass_1 : decode cX3_pass 1 = .ok (.aload_n 0, 1) := by decide +kernel
theorem dX3_pass_2 : decode cX3_pass 2 = .ok (.getfield 48, 3) := by decide +kernel
theorem dX3_pass_5 : decode cX3_pass 5 = .ok (.invokevirtual 58, 3) := by decide +kernel
theorem dX3_pass_8 : decode cX3_pass 8 = .ok (.iload_n 1, 1) := by decide +kernel
theorem dX3_pass_9 : decode cX3_pass 9 = .ok (.if_icmp .eq 5, 3) := by decide +kernel
theorem dX3_pass_12 : decode cX3_pass 12 = .ok (.iconst 0, 1) := by decide +kernel
theorem dX3_pass_13 : decode cX3_pass 13 = .ok (.ireturn, 1) := by decide +kernel
theorem dX3_pass_14 : decode cX3_pass 14 = .ok (.aload_n 0, 1) := by decide +kernel
theorem dX3_pass_15 : decode cX3_pass 15 = .ok (.dup, 1) := by decide +kernel
theorem dX3_pass_16 : decode cX3_pass 16 = .ok (.getfield 48, 3) := by decide +kernel
theorem dX3_pass_19 : decode cX3_pass 19 = .ok (.iconst 1, 1) := by decide +kernel
theorem dX3_pass_20 : decode cX3_pass 20 = .ok (.iadd, 1) := by decide +kernel
theorem dX3_pass_21 : decode cX3_pass 21 = .ok (.putfield 48, 3) := by decide +kernel
theorem dX3_pass_24 : decode cX3_pass 24 = .ok (.iconst 1, 1) := by decide +kernel
theorem dX3_pass_25 : decode cX3_pass 25 = .ok (.ireturn, 1) := by decide +kernel
set_option maxRecDepth 200000 in
theorem ggX3_readFirst_X3_readNumber : GoodIn wsX3_readFirst wsX3_readNumber := goodIn_r _ [6, 7, 8, 9, 10, 5, 11, 12, 13, 14, 15, 16, 17, 18, 19, 20, 21, 22, 23, 24, 25] rfl (by decide +kernel)
set_option maxRecDepth 200000 in
theorem gX3_readFirst_X3_readNumber : GoodIn wsX3_readFirst (wsV RX3 71 RX3 yX3_readNumber wsX3_readNumber) := goodIn_app (goodIn_of _ (by decide +kernel)) ggX3_readFirst_X3_readNumber
theorem dX3_readFirst_0 : decode cX3_readFirst 0 = .ok (.aload_n 0, 1) := by decide +kernel
theorem dX3_readFirst_1 : decode cX3_readFirst 1 = .ok (.aload_n 0, 1) := by decide +kernel
theorem dX3_readFirst_2 : decode cX3_readFirst 2 = .ok (.iload_n 1, 1) := by decide +kernel
theorem dX3_readFirst_3 : decode cX3_readFirst 3 = .ok (.iload_n 2, 1) := by decide +kernel
theorem dX3_readFirst_4 : decode cX3_readFirst 4 = .ok (.invokevirtual 71, 3) := by decide +kernel
theorem dX3_readFirst_7 : decode cX3_readFirst 7 = .ok (.putfield 26, 3) := by decide +kernel
theorem dX3_readFirst_10 : decode cX3_readFirst 10 = .ok (.aload_n 0, 1) := by decide +kernel
theorem dX3_readFirst_11 : decode cX3_readFirst 11 = .ok (.getfield 26, 3) := by decide +kernel
theorem dX3_readFirst_14 : decode cX3_readFirst 14 = .ok (.iconst (-1), 1) := by decide +kernel
theorem dX3_readFirst_15 : decode cX3_readFirst 15 = .ok (.if_icmp .eq 7, 3) := by decide +kernel
theorem dX3_readFirst_18 : decode cX3_readFirst 18 = .ok (.iconst 1, 1) := by decide +kernel
theorem dX3_readFirst_19 : decode cX3_readFirst 19 = .ok (.goto 4, 3) := by decide +kernel
theorem dX3_readFirst_22 : decode cX3_readFirst 22 = .ok (.iconst 0, 1) := by decide +kernel
theorem dX3_readFirst_23 : decode cX3_readFirst 23 = .ok (.ireturn, 1) := by decide +kernel
set_option maxRecDepth 200000 in
theorem ggX3_readSecond_X3_readNumber : GoodIn wsX3_readSecond wsX3_readNumber := goodIn_r _ [6, 7, 8, 9, 10, 5, 11, 12, 13, 14, 15, 16, 17, 18, 19, 20, 21, 22, 23, 24, 25] rfl (by decide +kernel)
set_option maxRecDepth 200000 in
theorem gX3_readSecond_X3_readNumber : GoodIn wsX3_readSecond (wsV RX3 71 RX3 yX3_readNumber wsX3_readNumber) := goodIn_app (goodIn_of _ (by decide +kernel)) ggX3_readSecond_X3_readNumber
theorem dX3_readSecond_0 : decode cX3_readSecond 0 = .ok (.aload_n 0, 1) := by decide +kernel
theorem dX3_readSecond_1 : decode cX3_readSecond 1 = .ok (.aload_n 0, 1) := by decide +kernel
theorem dX3_readSecond_2 : decode cX3_readSecond 2 = .ok (.iconst 0, 1) := by decide +kernel
theorem dX3_readSecond_3 : decode cX3_readSecond 3 = .ok (.iload_n 1, 1) := by decide +kernel
theorem dX3_readSecond_4 : decode cX3_readSecond 4 = .ok (.invokevirtual 71, 3) := by decide +kernel
theorem dX3_readSecond_7 : decode cX3_readSecond 7 = .ok (.putfield 29, 3) := by decide +kernel
theorem dX3_readSecond_10 : decode cX3_readSecond 10 = .ok (.aload_n 0, 1) := by decide +kernel
theorem dX3_readSecond_11 : decode cX3_readSecond 11 = .ok (.getfield 29, 3) := by decide +kernel
theorem dX3_readSecond_14 : decode cX3_readSecond 14 = .ok (.iconst (-1), 1) := by decide +kernel
theorem dX3_readSecond_15 : decode cX3_readSecond 15 = .ok (.if_icmp .eq 7, 3) := by decide +kernel
theorem dX3_readSecond_18 : decode cX3_readSecond 18 = .ok (.iconst 1, 1) := by decide +kernel
theorem dX3_readSecond_19 : decode cX3_readSecond 19 = .ok (.goto 4, 3) := by decide +kernel
theorem dX3_readSecond_22 : decode cX3_readSecond 22 = .ok (.iconst 0, 1) := by decide +kernel
theorem dX3_readSecond_23 : decode cX3_readSecond 23 = .ok (.ireturn, 1) := by decide +kernel
set_option maxRecDepth 200000 in
theorem ggX3_readNumber_X3_digitAt : GoodIn wsX3_readNumber wsX3_digitAt := goodIn_r _ [6, 7, 8, 9, 5, 10, 11, 12, 13, 14, 15, 16, 17, 18, 19, 20] rfl (by decide +kernel)
set_option maxRecDepth 200000 in
theorem gX3_readNumber_X3_digitAt : GoodIn wsX3_readNumber (wsV RX3 38 RX3 yX3_digitAt wsX3_digitAt) := goodIn_app (goodIn_of _ (by decide +kernel)) ggX3_readNumber_X3_digitAt
theorem dX3_readNumber_0 : decode cX3_readNumber 0 = .ok (.aload_n 0, 1) := by decide +kernel
theorem dX3_readNumber_1 : decode cX3_readNumber 1 = .ok (.aload_n 0, 1) := by decide +kernel
theorem dX3_readNumber_2 : decode cX3_readNumber 2 = .ok (.getfield 48, 3) := by decide +kernel
theorem dX3_readNumber_5 : decode cX3_readNumber 5 = .ok (.invokevirtual 38, 3) := by decide +kernel
theorem dX3_readNumber_8 : decode cX3_readNumber 8 = .ok (.istore_n 3, 1) := by decide +kernel
theorem dX3_readNumber_9 : decode cX3_readNumber 9 = .ok (.iload_n 3, 1) := by decide +kernel
theorem dX3_readNumber_10 : decode cX3_readNumber 10 = .ok (.iconst (-1), 1) := by decide +kernel
theorem dX3_readNumber_11 : decode cX3_readNumber 11 = .ok (.if_icmp .eq 13, 3) := by decide +kernel
theorem dX3_readNumber_14 : decode cX3_readNumber 14 = .ok (.iload_n 3, 1) := by decide +kernel
theorem dX3_readNumber_15 : decode cX3_readNumber 15 = .ok (.iload_n 1, 1) := by decide +kernel
theorem dX3_readNumber_16 : decode cX3_readNumber 16 = .ok (.if_icmp .lt 8, 3) := by decide +kernel
theorem dX3_readNumber_19 : decode cX3_readNumber 19 = .ok (.iload_n 3, 1) := by decide +kernel
theorem dX3_readNumber_20 : decode cX3_readNumber 20 = .ok (.iload_n 2, 1) := by decide +kernel
theorem dX3_readNumber_21 : decode cX3_readNumber 21 = .ok (.if_icmp .le 5, 3) := by decide +kernel
theorem dX3_readNumber_24 : decode cX3_readNumber 24 = .ok (.iconst (-1), 1) := by decide +kernel
theorem dX3_readNumber_25 : decode cX3_readNumber 25 = .ok (.ireturn, 1) := by decide +kernel
theorem dX3_readNumber_26 : decode cX3_readNumber 26 = .ok (.aload_n 0, 1) := by decide +kernel
theorem dX3_readNumber_27 : decode cX3_readNumber 27 = .ok (.dup, 1) := by decide +kernel
theorem dX3_readNumber_28 : decode cX3_readNumber 28 = .ok (.getfield 48, 3) := by decide +kernel
theorem dX3_readNumber_31 : decode cX3_readNumber 31 = .ok (.iconst 1, 1) := by decide +kernel
theorem dX3_readNumber_32 : decode cX3_readNumber 32 = .ok (.iadd, 1) := by decide +kernel
theorem dX3_readNumber_33 : decode cX3_readNumber 33 = .ok (.putfield 48, 3) := by decide +kernel
theorem dX3_readNumber_36 : decode cX3_readNumber 36 = .ok (.iconst 1, 1) := by decide +kernel
theorem dX3_readNumber_37 : decode cX3_readNumber 37 = .ok (.istore 4, 2) := by decide +kernel
theorem dX3_readNumber_39 : decode cX3_readNumber 39 = .ok (.iload 4, 2) := by decide +kernel
theorem dX3_readNumber_41 : decode cX3_readNumber 41 = .ok (.iconst 3, 1) := by decide +kernel
theorem dX3_readNumber_42 : decode cX3_readNumber 42 = .ok (.if_icmp .ge 60, 3) := by decide +kernel
theorem dX3_readNumber_45 : decode cX3_readNumber 45 = .ok (.aload_n 0, 1) := by decide +kernel
theorem dX3_readNumber_46 : decode cX3_readNumber 46 = .ok (.aload_n 0, 1) := by decide +kernel
theorem dX3_readNumber_47 : decode cX3_readNumber 47 = .ok (.getfield 48, 3) := by decide +kernel
theorem dX3_readNumber_50 : decode cX3_readNumber 50 = .ok (.invokevirtual 38, 3) := by decide +kernel
theorem dX3_readNumber_53 : decode cX3_readNumber 53 = .ok (.istore 5, 2) := by decide +kernel
theorem dX3_readNumber_55 : decode cX3_readNumber 55 = .ok (.iload_n 3, 1) := by decide +kernel
theorem dX3_readNumber_56 : decode cX3_readNumber 56 = .ok (.ifCond .eq 20, 3) := by decide +kernel
theorem dX3_readNumber_59 : decode cX3_readNumber 59 = .ok (.iload 5, 2) := by decide +kernel
theorem dX3_readNumber_61 : decode cX3_readNumber 61 = .ok (.iconst (-1), 1) := by decide +kernel
theorem dX3_readNumber_62 : decode cX3_readNumber 62 = .ok (.if_icmp .eq 14, 3) := by decide +kernel
theorem dX3_readNumber_65 : decode cX3_readNumber 65 = .ok (.iload_n 3, 1) := by decide +kernel
theorem dX3_readNumber_66 : decode cX3_readNumber 66 = .ok (.bipush 10, 2) := by decide +kernel
theorem dX3_readNumber_68 : decode cX3_readNumber 68 = .ok (.imul, 1) := by decide +kernel
theorem dX3_readNumber_69 : decode cX3_readNumber 69 = .ok (.iload 5, 2) := by decide +kernel
theorem dX3_readNumber_71 : decode cX3_readNumber 71 = .ok (.iadd, 1) := by decide +kernel
theorem dX3_readNumber_72 : decode cX3_readNumber 72 = .ok (.iload_n 2, 1) := by decide +kernel
theorem dX3_readNumber_73 : decode cX3_readNumber 73 = .ok (.if_icmp .le 5, 3) := by decide +kernel
theorem dX3_readNumber_76 : decode cX3_readNumber 76 = .ok (.iload_n 3, 1) := by decide +kernel
theorem dX3_readNumber_77 : decode cX3_readNumber 77 = .ok (.ireturn, 1) := by decide +kernel
theorem dX3_readNumber_78 : decode cX3_readNumber 78 = .ok (.iload_n 3, 1) := by decide +kernel
theorem dX3_readNumber_79 : decode cX3_readNumber 79 = .ok (.bipush 10, 2) := by decide +kernel
theorem dX3_readNumber_81 : decode cX3_readNumber 81 = .ok (.imul, 1) := by decide +kernel
theorem dX3_readNumber_82 : decode cX3_readNumber 82 = .ok (.iload 5, 2) := by decide +kernel
theorem dX3_readNumber_84 : decode cX3_readNumber 84 = .ok (.iadd, 1) := by decide +kernel
theorem dX3_readNumber_85 : decode cX3_readNumber 85 = .ok (.istore_n 3, 1) := by decide +kernel
theorem dX3_readNumber_86 : decode cX3_readNumber 86 = .ok (.aload_n 0, 1) := by decide +kernel
theorem dX3_readNumber_87 : decode cX3_readNumber 87 = .ok (.dup, 1) := by decide +kernel
theorem dX3_readNumber_88 : decode cX3_readNumber 88 = .ok (.getfield 48, 3) := by decide +kernel
theorem dX3_readNumber_91 : decode cX3_readNumber 91 = .ok (.iconst 1, 1) := by decide +kernel
theorem dX3_readNumber_92 : decode cX3_readNumber 92 = .ok (.iadd, 1) := by decide +kernel
theorem dX3_readNumber_93 : decode cX3_readNumber 93 = .ok (.putfield 48, 3) := by decide +kernel
theorem dX3_readNumber_96 : decode cX3_readNumber 96 = .ok (.iinc 4 1, 3) := by decide +kernel
theorem dX3_readNumber_99 : decode cX3_readNumber 99 = .ok (.goto (-60), 3) := by decide +kernel
theorem dX3_readNumber_102 : decode cX3_readNumber 102 = .ok (.iload_n 3, 1) := by decide +kernel
theorem dX3_readNumber_103 : decode cX3_readNumber 103 = .ok (.ireturn, 1) := by decide +kernel
set_option maxRecDepth 200000 in
theorem ggX3_readDirections_X3_digitAt : GoodIn wsX3_readDirections wsX3_digitAt := goodIn_r _ [8, 9, 10, 11, 7, 12, 13, 14, 18, 19, 20, 21, 22, 23, 24, 25] rfl (by decide +kernel)
set_option maxRecDepth 200000 in
theorem gX3_readDirections_X3_digitAt : GoodIn wsX3_readDirections (wsV RX3 38 RX3 yX3_digitAt wsX3_digitAt) := goodIn_app (goodIn_of _ (by decide +kernel)) ggX3_readDirections_X3_digitAt
set_option maxRecDepth 200000 in
theorem ggX3_readDirections_X6_isDirection : GoodIn wsX3_readDirections wsX6_isDirection := goodIn_r _ [17] rfl (by decide +kernel)
set_option maxRecDepth 200000 in
theorem gX3_readDirections_X6_isDirection_n75 : GoodIn wsX3_readDirections (wsX6_isDirection) := ggX3_readDirections_X6_isDirection
theorem dX3_readDirections_0 : decode cX3_readDirections 0 = .ok (.aload_n 0, 1) := by decide +kernel
theorem dX3_readDirections_1 : decode cX3_readDirections 1 = .ok (.aload_n 0, 1) := by decide +kernel
theorem dX3_readDirections_2 : decode cX3_readDirections 2 = .ok (.getfield 48, 3) := by decide +kernel
theorem dX3_readDirections_5 : decode cX3_readDirections 5 = .ok (.putfield 35, 3) := by decide +kernel
theorem dX3_readDirections_8 : decode cX3_readDirections 8 = .ok (.aload_n 0, 1) := by decide +kernel
theorem dX3_readDirections_9 : decode cX3_readDirections 9 = .ok (.iconst 0, 1) := by decide +kernel
theorem dX3_readDirections_10 : decode cX3_readDirections 10 = .ok (.putfield 32, 3) := by decide +kernel
theorem dX3_readDirections_13 : decode cX3_readDirections 13 = .ok (.aload_n 0, 1) := by decide +kernel
theorem dX3_readDirections_14 : decode cX3_readDirections 14 = .ok (.getfield 32, 3) := by decide +kernel
theorem dX3_readDirections_17 : decode cX3_readDirections 17 = .ok (.bipush 20, 2) := by decide +kernel
theorem dX3_readDirections_19 : decode cX3_readDirections 19 = .ok (.if_icmp .ge 40, 3) := by decide +kernel
theorem dX3_readDirections_22 : decode cX3_readDirections 22 = .ok (.aload_n 0, 1) := by decide +kernel
theorem dX3_readDirections_23 : decode cX3_readDirections 23 = .ok (.aload_n 0, 1) := by decide +kernel
theorem dX3_readDirections_24 : decode cX3_readDirections 24 = .ok (.getfield 48, 3) := by decide +kernel
theorem dX3_readDirections_27 : decode cX3_readDirections 27 = .ok (.invokevirtual 38, 3) := by decide +kernel
theorem dX3_readDirections_30 : decode cX3_readDirections 30 = .ok (.invokestatic 75, 3) := by decide +kernel
theorem dX3_readDirections_33 : decode cX3_readDirections 33 = .ok (.ifCond .eq 26, 3) := by decide +kernel
theorem dX3_readDirections_36 : decode cX3_readDirections 36 = .ok (.aload_n 0, 1) := by decide +kernel
theorem dX3_readDirections_37 : decode cX3_readDirections 37 = .ok (.dup, 1) := by decide +kernel
theorem dX3_readDirections_38 : decode cX3_readDirections 38 = .ok (.getfield 32, 3) := by decide +kernel
theorem dX3_readDirections_41 : decode cX3_readDirections 41 = .ok (.iconst 1, 1) := by decide +kernel
theorem dX3_readDirections_42 : decode cX3_readDirections 42 = .ok (.iadd, 1) := by decide +kernel
theorem dX3_readDirections_43 : decode cX3_readDirections 43 = .ok (.putfield 32, 3) := by decide +kernel
theorem dX3_readDirections_46 : decode cX3_readDirections 46 = .ok (.aload_n 0, 1) := by decide +kernel
theorem dX3_readDirections_47 : decode cX3_readDirections 47 = .ok (.dup, 1) := by decide +kernel
theorem dX3_readDirections_48 : decode cX3_readDirections 48 = .ok (.getfield 48, 3) := by decide +kernel
theorem dX3_readDirections_51 : decode cX3_readDirections 51 = .ok (.iconst 1, 1) := by decide +kernel
theorem dX3_readDirections_52 : decode cX3_readDirections 52 = .ok (.iadd, 1) := by decide +kernel
theorem dX3_readDirections_53 : decode cX3_readDirections 53 = .ok (.putfield 48, 3) := by decide +kernel
theorem dX3_readDirections_56 : decode cX3_readDirections 56 = .ok (.goto (-43), 3) := by decide +kernel
theorem dX3_readDirections_59 : decode cX3_readDirections 59 = .ok (.aload_n 0, 1) := by decide +kernel
theorem dX3_readDirections_60 : decode cX3_readDirections 60 = .ok (.getfield 32, 3) := by decide +kernel
theorem dX3_readDirections_63 : decode cX3_readDirections 63 = .ok (.ifCond .le 7, 3) := by decide +kernel
theorem dX3_readDirections_66 : decode cX3_readDirections 66 = .ok (.iconst 1, 1) := by decide +kernel
theorem dX3_readDirections_67 : decode cX3_readDirections 67 = .ok (.goto 4, 3) := by decide +kernel
theorem dX3_readDirections_70 : decode cX3_readDirections 70 = .ok (.iconst 0, 1) := by decide +kernel
theorem dX3_readDirections_71 : decode cX3_readDirections 71 = .ok (.ireturn, 1) := by decide +kernel
theorem dX4_init_0 : decode cX4_init 0 = .ok (.aload_n 0, 1) := by decide +kernel
theorem dX4_init_1 : decode cX4_init 1 = .ok (.invokespecial 3, 3) := by decide +kernel
theorem dX4_init_4 : decode cX4_init 4 = .ok (.aload_n 0, 1) := by decide +kernel
theorem dX4_init_5 : decode cX4_init 5 = .ok (.iconst 2, 1) := by decide +kernel
theorem dX4_init_6 : decode cX4_init 6 = .ok (.putfield 9, 3) := by decide +kernel
theorem dX4_init_9 : decode cX4_init 9 = .ok (.aload_n 0, 1) := by decide +kernel
theorem dX4_init_10 : decode cX4_init 10 = .ok (.bipush 8, 2) := by decide +kernel
theorem dX4_init_12 : decode cX4_init 12 = .ok (.newarray .int, 2) := by decide +kernel
theorem dX4_init_14 : decode cX4_init 14 = .ok (.putfield 15, 3) := by decide +kernel
theorem dX4_init_17 : decode cX4_init 17 = .ok (.aload_n 0, 1) := by decide +kernel
theorem dX4_init_18 : decode cX4_init 18 = .ok (.bipush 8, 2) := by decide +kernel
theorem dX4_init_20 : decode cX4_init 20 = .ok (.newarray .int, 2) := by decide +kernel
theorem dX4_init_22 : decode cX4_init 22 = .ok (.putfield 19, 3) := by decide +kernel
theorem dX4_init_25 : decode cX4_init 25 = .ok (.aload_n 0, 1) := by decide +kernel
theorem dX4_init_26 : decode cX4_init 26 = .ok (.bipush 8, 2) := by decide +kernel
theorem dX4_init_28 : decode cX4_init 28 = .ok (.newarray .int, 2) := by decide +kernel
theorem dX4_init_30 : decode cX4_init 30 = .ok (.putfield 22, 3) := by decide +kernel
theorem dX4_init_33 : decode cX4_init 33 = .ok (.aload_n 0, 1) := by decide +kernel
theorem dX4_init_34 : decode cX4_init 34 = .ok (.sipush 488, 3) := by decide +kernel
theorem dX4_init_37 : decode cX4_init 37 = .ok (.newarray .int, 2) := by decide +kernel
theorem dX4_init_39 : decode cX4_init 39 = .ok (.putfield 25, 3) := by decide +kernel
theorem dX4_init_42 : decode cX4_init 42 = .ok (.return_, 1) := by decide +kernel
theorem dX4_copyFrom_0 : decode cX4_copyFrom 0 = .ok (.aload_n 0, 1) := by decide +kernel
theorem dX4_copyFrom_1 : decode cX4_copyFrom 1 = .ok (.aload_n 1, 1) := by decide +kernel
theorem dX4_copyFrom_2 : decode cX4_copyFrom 2 = .ok (.getfield 28, 3) := by decide +kernel
theorem dX4_copyFrom_5 : decode cX4_copyFrom 5 = .ok (.putfield 28, 3) := by decide +kernel
theorem dX4_copyFrom_8 : decode cX4_copyFrom 8 = .ok (.aload_n 0, 1) := by decide +kernel
theorem dX4_copyFrom_9 : decode cX4_copyFrom 9 = .ok (.aload_n 1, 1) := by decide +kernel
theorem dX4_copyFrom_10 : decode cX4_copyFrom 10 = .ok (.getfield 9, 3) := by decide +kernel
theorem dX4_copyFrom_13 : decode cX4_copyFrom 13 = .ok (.putfield 9, 3) := by decide +kernel
theorem dX4_copyFrom_16 : decode cX4_copyFrom 16 = .ok (.aload_n 1, 1) := by decide +kernel
theorem dX4_copyFrom_17 : decode cX4_copyFrom 17 = .ok (.getfield 15, 3) := by decide +kernel
theorem dX4_copyFrom_20 : decode cX4_copyFrom 20 = .ok (.iconst 0, 1) := by decide +kernel
theorem dX4_copyFrom_21 : decode cX4_copyFrom 21 = .ok (.aload_n 0, 1) := by decide +kernel
theorem dX4_copyFrom_22 : decode cX4_copyFrom 22 = .ok (.getfield 15, 3) := by decide +kernel
theorem dX4_copyFrom_25 : decode cX4_copyFrom 25 = .ok (.iconst 0, 1) := by decide +kernel
theorem dX4_copyFrom_26 : decode cX4_copyFrom 26 = .ok (.bipush 8, 2) := by decide +kernel
theorem dX4_copyFrom_28 : decode cX4_copyFrom 28 = .ok (.invokestatic 31, 3) := by decide +kernel
theorem dX4_copyFrom_31 : decode cX4_copyFrom 31 = .ok (.aload_n 1, 1) := by decide +kernel
theorem dX4_copyFrom_32 : decode cX4_copyFrom 32 = .ok (.getfield 19, 3) := by decide +kernel
theorem dX4_copyFrom_35 : decode cX4_copyFrom 35 = .ok (.iconst 0, 1) := by decide +kernel
theorem dX4_copyFrom_36 : decode cX4_copyFrom 36 = .ok (.aload_n 0, 1) := by decide +kernel
theorem dX4_copyFrom_37 : decode cX4_copyFrom 37 = .ok (.getfield 19, 3) := by decide +kernel
theorem dX4_copyFrom_40 : decode cX4_copyFrom 40 = .ok (.iconst 0, 1) := by decide +kernel
theorem dX4_copyFrom_41 : decode cX4_copyFrom 41 = .ok (.bipush 8, 2) := by decide +kernel
theorem dX4_copyFrom_43 : decode cX4_copyFrom 43 = .ok (.invokestatic 31, 3) := by decide +kernel
theorem dX4_copyFrom_46 : decode cX4_copyFrom 46 = .ok (.aload_n 1, 1) := by decide +kernel
theorem dX4_copyFrom_47 : decode cX4_copyFrom 47 = .ok (.getfield 22, 3) := by decide +kernel
theorem dX4_copyFrom_50 : decode cX4_copyFrom 50 = .ok (.iconst 0, 1) := by decide +kernel
theorem dX4_copyFrom_51 : decode cX4_copyFrom 51 = .ok (.aload_n 0, 1) := by decide +kernel
theorem dX4_copyFrom_52 : decode cX4_copyFrom 52 = .ok (.getfield 22, 3) := by decide +kernel
theorem dX4_copyFrom_55 : decode cX4_copyFrom 55 = .ok (.iconst 0, 1) := by decide +kernel
theorem dX4_copyFrom_56 : decode cX4_copyFrom 56 = .ok (.bipush 8, 2) := by decide +kernel
theorem dX4_copyFrom_58 : decode cX4_copyFrom 58 = .ok (.invokestatic 31, 3) := by decide +kernel
theorem dX4_copyFrom_61 : decode cX4_copyFrom 61 = .ok (.aload_n 1, 1) := by decide +kernel
theorem dX4_copyFrom_62 : decode cX4_copyFrom 62 = .ok (.getfield 25, 3) := by decide +kernel
theorem dX4_copyFrom_65 : decode cX4_copyFrom 65 = .ok (.iconst 0, 1) := by decide +kernel
theorem dX4_copyFrom_66 : decode cX4_copyFrom 66 = .ok (.aload_n 0, 1) := by decide +kernel
theorem dX4_copyFrom_67 : decode cX4_copyFrom 67 = .ok (.getfield 25, 3) := by decide +kernel
theorem dX4_copyFrom_70 : decode cX4_copyFrom 70 = .ok (.iconst 0, 1) := by decide +kernel
theorem dX4_copyFrom_71 : decode cX4_copyFrom 71 = .ok (.sipush 488, 3) := by decide +kernel
theorem dX4_copyFrom_74 : decode cX4_copyFrom 74 = .ok (.invokestatic 31, 3) := by decide +kernel
theorem dX4_copyFrom_77 : decode cX4_copyFrom 77 = .ok (.return_, 1) := by decide +kernel
theorem dX4_lineCount_0 : decode cX4_lineCount 0 = .ok (.aload_n 0, 1) := by decide +kernel
theorem dX4_lineCount_1 : decode cX4_lineCount 1 = .ok (.getfield 28, 3) := by decide +kernel
theorem dX4_lineCount_4 : decode cX4_lineCount 4 = .ok (.ireturn, 1) := by decide +kernel
theorem dX4_gapWidth_0 : decode cX4_gapWidth 0 = .ok (.aload_n 0, 1) := by decide +kernel
theorem dX4_gapWidth_1 : decode cX4_gapWidth 1 = .ok (.getfield 9, 3) := by decide +kernel
theorem dX4_gapWidth_4 : decode cX4_gapWidth 4 = .ok (.ireturn, 1) := by decide +kernel
theorem dX4_putGap_0 : decode cX4_putGap 0 = .ok (.aload_n 0, 1) := by decide +kernel
theorem dX4_putGap_1 : decode cX4_putGap 1 = .ok (.iload_n 1, 1) := by decide +kernel
theorem dX4_putGap_2 : decode cX4_putGap 2 = .ok (.putfield 9, 3) := by decide +kernel
theorem dX4_putGap_5 : decode cX4_putGap 5 = .ok (.return_, 1) := by decide +kernel
theorem dX4_hasLine_0 : decode cX4_hasLine 0 = .ok (.iload_n 1, 1) := by decide +kernel
theorem dX4_hasLine_1 : decode cX4_hasLine 1 = .ok (.ifCond .lt 15, 3) := by decide +kernel
theorem dX4_hasLine_4 : decode cX4_hasLine 4 = .ok (.iload_n 1, 1) := by decide +kernel
theorem dX4_hasLine_5 : decode cX4_hasLine 5 = .ok (.aload_n 0, 1) := by decide +kernel
theorem dX4_hasLine_6 : decode cX4_hasLine 6 = .ok (.getfield 28, 3) := by decide +kernel
theorem dX4_hasLine_9 : decode cX4_hasLine 9 = .ok (.if_icmp .ge 7, 3) := by decide +kernel
theorem dX4_hasLine_12 : decode cX4_hasLine 12 = .ok (.iconst 1, 1) := by decide +kernel
theorem dX4_hasLine_13 : decode cX4_hasLine 13 = .ok (.goto 4, 3) := by decide +kernel
theorem dX4_hasLine_16 : decode cX4_hasLine 16 = .ok (.iconst 0, 1) := by decide +kernel
theorem dX4_hasLine_17 : decode cX4_hasLine 17 = .ok (.ireturn, 1) := by decide +kernel
theorem dX4_hasNumber_0 : decode cX4_hasNumber 0 = .ok (.iload_n 1, 1) := by decide +kernel
theorem dX4_hasNumber_1 : decode cX4_hasNumber 1 = .ok (.ifCond .lt 29, 3) := by decide +kernel
theorem dX4_hasNumber_4 : decode cX4_hasNumber 4 = .ok (.iload_n 1, 1) := by decide +kernel
theorem dX4_hasNumber_5 : decode cX4_hasNumber 5 = .ok (.aload_n 0, 1) := by decide +kernel
theorem dX4_hasNumber_6 : decode cX4_hasNumber 6 = .ok (.getfield 28, 3) := by decide +kernel
theorem dX4_hasNumber_9 : decode cX4_hasNumber 9 = .ok (.if_icmp .ge 21, 3) := by decide +kernel
theorem dX4_hasNumber_12 : decode cX4_hasNumber 12 = .ok (.iload_n 2, 1) := by decide +kernel
theorem dX4_hasNumber_13 : decode cX4_hasNumber 13 = .ok (.ifCond .lt 17, 3) := by decide +kernel
theorem dX4_hasNumber_16 : decode cX4_hasNumber 16 = .ok (.iload_n 2, 1) := by decide +kernel
theorem dX4_hasNumber_17 : decode cX4_hasNumber 17 = .ok (.aload_n 0, 1) := by decide +kernel
theorem dX4_hasNumber_18 : decode cX4_hasNumber 18 = .ok (.getfield 19, 3) := by decide +kernel
theorem dX4_hasNumber_21 : decode cX4_hasNumber 21 = .ok (.iload_n 1, 1) := by decide +kernel
theorem dX4_hasNumber_22 : decode cX4_hasNumber 22 = .ok (.iaload, 1) := by decide +kernel
theorem dX4_hasNumber_23 : decode cX4_hasNumber 23 = .ok (.if_icmp .gt 7, 3) := by decide +kernel
theorem dX4_hasNumber_26 : decode cX4_hasNumber 26 = .ok (.iconst 1, 1) := by decide +kernel
theorem dX4_hasNumber_27 : decode cX4_hasNumber 27 = .ok (.goto 4, 3) := by decide +kernel
theorem dX4_hasNumber_30 : decode cX4_hasNumber 30 = .ok (.iconst 0, 1) := by decide +kernel
theorem dX4_hasNumber_31 : decode cX4_hasNumber 31 = .ok (.ireturn, 1) := by decide +kernel
theorem dX4_levelIn_0 : decode cX4_levelIn 0 = .ok (.iload_n 1, 1) := by decide +kernel
theorem dX4_levelIn_1 : decode cX4_levelIn 1 = .ok (.ifCond .lt 20, 3) := by decide +kernel
theorem dX4_levelIn_4 : decode cX4_levelIn 4 = .ok (.iload_n 1, 1) := by decide +kernel
theorem dX4_levelIn_5 : decode cX4_levelIn 5 = .ok (.aload_n 0, 1) := by decide +kernel
theorem dX4_levelIn_6 : decode cX4_levelIn 6 = .ok (.getfield 28, 3) := by decide +kernel
theorem dX4_levelIn_9 : decode cX4_levelIn 9 = .ok (.if_icmp .ge 12, 3) := by decide +kernel
theorem dX4_levelIn_12 : decode cX4_levelIn 12 = .ok (.aload_n 0, 1) := by decide +kernel
theorem dX4_levelIn_13 : decode cX4_levelIn 13 = .ok (.getfield 15, 3) := by decide +kernel
theorem dX4_levelIn_16 : decode cX4_levelIn 16 = .ok (.iload_n 1, 1) := by decide +kernel
theorem dX4_levelIn_17 : decode cX4_levelIn 17 = .ok (.iaload, 1) := by decide +kernel
theorem dX4_levelIn_18 : decode cX4_levelIn 18 = .ok (.goto 4, 3) := by decide +kernel
theorem dX4_levelIn_21 : decode cX4_levelIn 21 = .ok (.iconst (-1), 1) := by decide +kernel
theorem dX4_levelIn_22 : decode cX4_levelIn 22 = .ok (.ireturn, 1) := by decide +kernel
theorem dX4_sizeIn_0 : decode cX4_sizeIn 0 = .ok (.iload_n 1, 1) := by decide +kernel
theorem dX4_sizeIn_1 : decode cX4_sizeIn 1 = .ok (.ifCond .lt 26, 3) := by decide +kernel
theorem dX4_sizeIn_4 : decode cX4_sizeIn 4 = .ok (.iload_n 1, 1) := by decide +kernel
theorem dX4_sizeIn_5 : decode cX4_sizeIn 5 = .ok (.aload_n 0, 1) := by decide +kernel
theorem dX4_sizeIn_6 : decode cX4_sizeIn 6 = .ok (.getfield 28, 3) := by decide +kernel
theorem dX4_sizeIn_9 : decode cX4_sizeIn 9 = .ok (.if_icmp .ge 18, 3) := by decide +kernel
theorem dX4_sizeIn_12 : decode cX4_sizeIn 12 = .ok (.aload_n 0, 1) := by decide +kernel
theorem dX4_sizeIn_13 : decode cX4_sizeIn 13 = .ok (.getfield 15, 3) := by decide +kernel
theorem dX4_sizeIn_16 : decode cX4_sizeIn 16 = .ok (.iload_n 1, 1) := by decide +kernel
theorem dX4_sizeIn_17 : decode cX4_sizeIn 17 = .ok (.iaload, 1) := by decide +kernel
theorem dX4_sizeIn_18 : decode cX4_sizeIn 18 = .ok (.bipush 10, 2) := by decide +kernel
theorem dX4_sizeIn_20 : decode cX4_sizeIn 20 = .ok (.if_icmp .lt 7, 3) := by decide +kernel
theorem dX4_sizeIn_23 : decode cX4_sizeIn 23 = .ok (.iconst 3, 1) := by decide +kernel
theorem dX4_sizeIn_24 : decode cX4_sizeIn 24 = .ok (.goto 4, 3) := by decide +kernel
theorem dX4_sizeIn_27 : decode cX4_sizeIn 27 = .ok (.iconst 2, 1) := by decide +kernel
theorem dX4_sizeIn_28 : decode cX4_sizeIn 28 = .ok (.ireturn, 1) := by decide +kernel
theorem dX4_putLevel_0 : decode cX4_putLevel 0 = .ok (.iload_n 1, 1) := by decide +kernel
theorem dX4_putLevel_1 : decode cX4_putLevel 1 = .ok (.ifCond .lt 18, 3) := by decide +kernel
theorem dX4_putLevel_4 : decode cX4_putLevel 4 = .ok (.iload_n 1, 1) := by decide +kernel
theorem dX4_putLevel_5 : decode cX4_putLevel 5 = .ok (.aload_n 0, 1) := by decide +kernel
theorem dX4_putLevel_6 : decode cX4_putLevel 6 = .ok (.getfield 28, 3) := by decide +kernel
theorem dX4_putLevel_9 : decode cX4_putLevel 9 = .ok (.if_icmp .ge 10, 3) := by decide +kernel
theorem dX4_putLevel_12 : decode cX4_putLevel 12 = .ok (.aload_n 0, 1) := by decide +kernel
theorem dX4_putLevel_13 : decode cX4_putLevel 13 = .ok (.getfield 15, 3) := by decide +kernel
theorem dX4_putLevel_16 : decode cX4_putLevel 16 = .ok (.iload_n 1, 1) := by decide +kernel
theorem dX4_putLevel_17 : decode cX4_putLevel 17 = .ok (.iload_n 2, 1) := by decide +kernel
theorem dX4_putLevel_18 : decode cX4_putLevel 18 = .ok (.iastore, 1) := by decide +kernel
theorem dX4_putLevel_19 : decode cX4_putLevel 19 = .ok (.return_, 1) := by decide +kernel
theorem dX4_labelIn_0 : decode cX4_labelIn 0 = .ok (.iload_n 1, 1) := by decide +kernel
theorem dX4_labelIn_1 : decode cX4_labelIn 1 = .ok (.ifCond .lt 20, 3) := by decide +kernel
theorem dX4_labelIn_4 : decode cX4_labelIn 4 = .ok (.iload_n 1, 1) := by decide +kernel
theorem dX4_labelIn_5 : decode cX4_labelIn 5 = .ok (.aload_n 0, 1) := by decide +kernel
theorem dX4_labelIn_6 : decode cX4_labelIn 6 = .ok (.getfield 28, 3) := by decide +kernel
theorem dX4_labelIn_9 : decode cX4_labelIn 9 = .ok (.if_icmp .ge 12, 3) := by decide +kernel
theorem dX4_labelIn_12 : decode cX4_labelIn 12 = .ok (.aload_n 0, 1) := by decide +kernel
theorem dX4_labelIn_13 : decode cX4_labelIn 13 = .ok (.getfield 22, 3) := by decide +kernel
theorem dX4_labelIn_16 : decode cX4_labelIn 16 = .ok (.iload_n 1, 1) := by decide +kernel
theorem dX4_labelIn_17 : decode cX4_labelIn 17 = .ok (.iaload, 1) := by decide +kernel
theorem dX4_labelIn_18 : decode cX4_labelIn 18 = .ok (.goto 4, 3) := by decide +kernel
theorem dX4_labelIn_21 : decode cX4_labelIn 21 = .ok (.iconst (-1), 1) := by decide +kernel
theorem dX4_labelIn_22 : decode cX4_labelIn 22 = .ok (.ireturn, 1) := by decide +kernel
theorem dX4_putLabel_0 : decode cX4_putLabel 0 = .ok (.iload_n 1, 1) := by decide +kernel
theorem dX4_putLabel_1 : decode cX4_putLabel 1 = .ok (.ifCond .lt 18, 3) := by decide +kernel
theorem dX4_putLabel_4 : decode cX4_putLabel 4 = .ok (.iload_n 1, 1) := by decide +kernel
theorem dX4_putLabel_5 : decode cX4_putLabel 5 = .ok (.aload_n 0, 1) := by decide +kernel
theorem dX4_putLabel_6 : decode cX4_putLabel 6 = .ok (.getfield 28, 3) := by decide +kernel
theorem dX4_putLabel_9 : decode cX4_putLabel 9 = .ok (.if_icmp .ge 10, 3) := by decide +kernel
theorem dX4_putLabel_12 : decode cX4_putLabel 12 = .ok (.aload_n 0, 1) := by decide +kernel
theorem dX4_putLabel_13 : decode cX4_putLabel 13 = .ok (.getfield 22, 3) := by decide +kernel
theorem dX4_putLabel_16 : decode cX4_putLabel 16 = .ok (.iload_n 1, 1) := by decide +kernel
theorem dX4_putLabel_17 : decode cX4_putLabel 17 = .ok (.iload_n 2, 1) := by decide +kernel
theorem dX4_putLabel_18 : decode cX4_putLabel 18 = .ok (.iastore, 1) := by decide +kernel
theorem dX4_putLabel_19 : decode cX4_putLabel 19 = .ok (.return_, 1) := by decide +kernel
set_option maxRecDepth 200000 in
theorem ggX4_labelCount_X4_labelIn : GoodIn wsX4_labelCount wsX4_labelIn := goodIn_r _ [6, 1, 7, 8, 9, 10, 11, 12, 13] rfl (by decide +kernel)
set_option maxRecDepth 200000 in
theorem gX4_labelCount_X4_labelIn : GoodIn wsX4_labelCount (wsV RX4 37 RX4 yX4_labelIn wsX4_labelIn) := goodIn_app (goodIn_of _ (by decide +kernel)) ggX4_labelCount_X4_labelIn
theorem dX4_labelCount_0 : decode cX4_labelCount 0 = .ok (.iconst 0, 1) := by decide +kernel
theorem dX4_labelCount_1 : decode cX4_labelCount 1 = .ok (.istore_n 1, 1) := by decide +kernel
theorem dX4_labelCount_2 : decode cX4_labelCount 2 = .ok (.iconst 0, 1) := by decide +kernel
theorem dX4_labelCount_3 : decode cX4_labelCount 3 = .ok (.istore_n 2, 1) := by decide +kernel
theorem dX4_labelCount_4 : decode cX4_labelCount 4 = .ok (.iload_n 2, 1) := by decide +kernel
theorem dX4_labelCount_5 : decode cX4_labelCount 5 = .ok (.aload_n 0, 1) := by decide +kernel
theorem dX4_labelCount_6 : decode cX4_labelCount 6 = .ok (.getfield 28, 3) := by decide +kernel
theorem dX4_labelCount_9 : decode cX4_labelCount 9 = .ok (.if_icmp .ge 21, 3) := by decide +kernel
theorem dX4_labelCount_12 : decode cX4_labelCount 12 = .ok (.aload_n 0, 1) := by decide +kernel
theorem dX4_labelCount_13 : decode cX4_labelCount 13 = .ok (.iload_n 2, 1) := by decide +kernel
theorem dX4_labelCount_14 : decode cX4_labelCount 14 = .ok (.invokevirtual 37, 3) := by decide +kernel
theorem dX4_labelCount_17 : decode cX4_labelCount 17 = .ok (.iconst (-1), 1) := by decide +kernel
theorem dX4_labelCount_18 : decode cX4_labelCount 18 = .ok (.if_icmp .eq 6, 3) := by decide +kernel
theorem dX4_labelCount_21 : decode cX4_labelCount 21 = .ok (.iinc 1 1, 3) := by decide +kernel
theorem dX4_labelCount_24 : decode cX4_labelCount 24 = .ok (.iinc 2 1, 3) := by decide +kernel
theorem dX4_labelCount_27 : decode cX4_labelCount 27 = .ok (.goto (-23), 3) := by decide +kernel
theorem dX4_labelCount_30 : decode cX4_labelCount 30 = .ok (.iload_n 1, 1) := by decide +kernel
theorem dX4_labelCount_31 : decode cX4_labelCount 31 = .ok (.ireturn, 1) := by decide +kernel
theorem dX4_stepCount_0 : decode cX4_stepCount 0 = .ok (.iload_n 1, 1) := by decide +kernel
theorem dX4_stepCount_1 : decode cX4_stepCount 1 = .ok (.ifCond .lt 20, 3) := by decide +kernel
theorem dX4_stepCount_4 : decode cX4_stepCount 4 = .ok (.iload_n 1, 1) := by decide +kernel
theorem dX4_stepCount_5 : decode cX4_stepCount 5 = .ok (.aload_n 0, 1) := by decide +kernel
theorem dX4_stepCount_6 : decode cX4_stepCount 6 = .ok (.getfield 28, 3) := by decide +kernel
theorem dX4_stepCount_9 : decode cX4_stepCount 9 = .ok (.if_icmp .ge 12, 3) := by decide +kernel
theorem dX4_stepCount_12 : decode cX4_stepCount 12 = .ok (.aload_n 0, 1) := by decide +kernel
theorem dX4_stepCount_13 : decode cX4_stepCount 13 = .ok (.getfield 19, 3) := by decide +kernel
theorem dX4_stepCount_16 : decode cX4_stepCount 16 = .ok (.iload_n 1, 1) := by decide +kernel
theorem dX4_stepCount_17 : decode cX4_stepCount 17 = .ok (.iaload, 1) := by decide +kernel
theorem dX4_stepCount_18 : decode cX4_stepCount 18 = .ok (.goto 4, 3) := by decide +kernel
theorem dX4_stepCount_21 : decode cX4_stepCount 21 = .ok (.iconst (-1), 1) := by decide +kernel
theorem dX4_stepCount_22 : decode cX4_stepCount 22 = .ok (.ireturn, 1) := by decide +kernel
theorem dX4_pointAt_0 : decode cX4_pointAt 0 = .ok (.iload_n 1, 1) := by decide +kernel
theorem dX4_pointAt_1 : decode cX4_pointAt 1 = .ok (.ifCond .lt 25, 3) := by decide +kernel
theorem dX4_pointAt_4 : decode cX4_pointAt 4 = .ok (.iload_n 1, 1) := by decide +kernel
theorem dX4_pointAt_5 : decode cX4_pointAt 5 = .ok (.aload_n 0, 1) := by decide +kernel
theorem dX4_pointAt_6 : decode cX4_pointAt 6 = .ok (.getfield 28, 3) := by decide +kernel
theorem dX4_pointAt_9 : decode cX4_pointAt 9 = .ok (.if_icmp .ge 17, 3) := by decide +kernel
theorem dX4_pointAt_12 : decode cX4_pointAt 12 = .ok (.iload_n 2, 1) := by decide +kernel
theorem dX4_pointAt_13 : decode cX4_pointAt 13 = .ok (.ifCond .lt 13, 3) := by decide +kernel
theorem dX4_pointAt_16 : decode cX4_pointAt 16 = .ok (.iload_n 2, 1) := by decide +kernel
theorem dX4_pointAt_17 : decode cX4_pointAt 17 = .ok (.aload_n 0, 1) := by decide +kernel
theorem dX4_pointAt_18 : decode cX4_pointAt 18 = .ok (.getfield 19, 3) := by decide +kernel
theorem dX4_pointAt_21 : decode cX4_pointAt 21 = .ok (.iload_n 1, 1) := by decide +kernel
theorem dX4_pointAt_22 : decode cX4_pointAt 22 = .ok (.iaload, 1) := by decide +kernel
theorem dX4_pointAt_23 : decode cX4_pointAt 23 = .ok (.if_icmp .le 5, 3) := by decide +kernel
theorem dX4_pointAt_26 : decode cX4_pointAt 26 = .ok (.iconst (-1), 1) := by decide +kernel
theorem dX4_pointAt_27 : decode cX4_pointAt 27 = .ok (.ireturn, 1) := by decide +kernel
theorem dX4_pointAt_28 : decode cX4_pointAt 28 = .ok (.aload_n 0, 1) := by decide +kernel
theorem dX4_pointAt_29 : decode cX4_pointAt 29 = .ok (.getfield 25, 3) := by decide +kernel
theorem dX4_pointAt_32 : decode cX4_pointAt 32 = .ok (.iload_n 1, 1) := by decide +kernel
theorem dX4_pointAt_33 : decode cX4_pointAt 33 = .ok (.bipush 61, 2) := by decide +kernel
theorem dX4_pointAt_35 : decode cX4_pointAt 35 = .ok (.imul, 1) := by decide +kernel
theorem dX4_pointAt_36 : decode cX4_pointAt 36 = .ok (.iload_n 2, 1) := by decide +kernel
theorem dX4_pointAt_37 : decode cX4_pointAt 37 = .ok (.iadd, 1) := by decide +kernel
theorem dX4_pointAt_38 : decode cX4_pointAt 38 = .ok (.iaload, 1) := by decide +kernel
theorem dX4_pointAt_39 : decode cX4_pointAt 39 = .ok (.ireturn, 1) := by decide +kernel
theorem dX4_directionAt_0 : decode cX4_directionAt 0 = .ok (.iload_n 1, 1) := by decide +kernel
theorem dX4_directionAt_1 : decode cX4_directionAt 1 = .ok (.ifCond .lt 25, 3) := by decide +kernel
theorem dX4_directionAt_4 : decode cX4_directionAt 4 = .ok (.iload_n 1, 1) := by decide +kernel
theorem dX4_directionAt_5 : decode cX4_directionAt 5 = .ok (.aload_n 0, 1) := by decide +kernel
theorem dX4_directionAt_6 : decode cX4_directionAt 6 = .ok (.getfield 28, 3) := by decide +kernel
theorem dX4_directionAt_9 : decode cX4_directionAt 9 = .ok (.if_icmp .ge 17, 3) := by decide +kernel
theorem dX4_directionAt_12 : decode cX4_directionAt 12 = .ok (.iload_n 2, 1) := by decide +kernel
theorem dX4_directionAt_13 : decode cX4_directionAt 13 = .ok (.ifCond .lt 13, 3) := by decide +kernel
theorem dX4_directionAt_16 : decode cX4_directionAt 16 = .ok (.iload_n 2, 1) := by decide +kernel
theorem dX4_directionAt_17 : decode cX4_directionAt 17 = .ok (.aload_n 0, 1) := by decide +kernel
theorem dX4_directionAt_18 : decode cX4_directionAt 18 = .ok (.getfield 19, 3) := by decide +kernel
theorem dX4_directionAt_21 : decode cX4_directionAt 21 = .ok (.iload_n 1, 1) := by decide +kernel
theorem dX4_directionAt_22 : decode cX4_directionAt 22 = .ok (.iaload, 1) := by decide +kernel
theorem dX4_directionAt_23 : decode cX4_directionAt 23 = .ok (.if_icmp .lt 5, 3) := by decide +kernel
theorem dX4_directionAt_26 : decode cX4_directionAt 26 = .ok (.iconst (-1), 1) := by decide +kernel
theorem dX4_directionAt_27 : decode cX4_directionAt 27 = .ok (.ireturn, 1) := by decide +kernel
theorem dX4_directionAt_28 : decode cX4_directionAt 28 = .ok (.iload_n 1, 1) := by decide +kernel
theorem dX4_directionAt_29 : decode cX4_directionAt 29 = .ok (.bipush 61, 2) := by decide +kernel
theorem dX4_directionAt_31 : decode cX4_directionAt 31 = .ok (.imul, 1) := by decide +kernel
theorem dX4_directionAt_32 : decode cX4_directionAt 32 = .ok (.iload_n 2, 1) := by decide +kernel
theorem dX4_directionAt_33 : decode cX4_directionAt 33 = .ok (.iadd, 1) := by decide +kernel
theorem dX4_directionAt_34 : decode cX4_directionAt 34 = .ok (.istore_n 3, 1) := by decide +kernel
theorem dX4_directionAt_35 : decode cX4_directionAt 35 = .ok (.aload_n 0, 1) := by decide +kernel
theorem dX4_directionAt_36 : decode cX4_directionAt 36 = .ok (.getfield 25, 3) := by decide +kernel
theorem dX4_directionAt_39 : decode cX4_directionAt 39 = .ok (.iload_n 3, 1) := by decide +kernel
theorem dX4_directionAt_40 : decode cX4_directionAt 40 = .ok (.iconst 1, 1) := by decide +kernel
theorem dX4_directionAt_41 : decode cX4_directionAt 41 = .ok (.iadd, 1) := by decide +kernel
theorem dX4_directionAt_42 : decode cX4_directionAt 42 = .ok (.iaload, 1) := by decide +kernel
theorem dX4_directionAt_43 : decode cX4_directionAt 43 = .ok (.aload_n 0, 1) := by decide +kernel
theorem dX4_directionAt_44 : decode cX4_directionAt 44 = .ok (.getfield 25, 3) := by decide +kernel
theorem dX4_directionAt_47 : decode cX4_directionAt 47 = .ok (.iload_n 3, 1) := by decide +kernel
theorem dX4_directionAt_48 : decode cX4_directionAt 48 = .ok (.iaload, 1) := by decide +kernel
theorem dX4_directionAt_49 : decode cX4_directionAt 49 = .ok (.isub, 1) := by decide +kernel
theorem dX4_directionAt_50 : decode cX4_directionAt 50 = .ok (.lookupswitch 81 #[(-25, 76), (-24, 78), (-1, 74), (1, 66), (23, 72), (24, 70), (25, 68)], 66) := by decide +kernel
theorem dX4_directionAt_116 : decode cX4_directionAt 116 = .ok (.iconst 0, 1) := by decide +kernel
theorem dX4_directionAt_117 : decode cX4_directionAt 117 = .ok (.ireturn, 1) := by decide +kernel
theorem dX4_directionAt_118 : decode cX4_directionAt 118 = .ok (.iconst 1, 1) := by decide +kernel
theorem dX4_directionAt_119 : decode cX4_directionAt 119 = .ok (.ireturn, 1) := by decide +kernel
theorem dX4_directionAt_120 : decode cX4_directionAt 120 = .ok (.iconst 2, 1) := by decide +kernel
theorem dX4_directionAt_121 : decode cX4_directionAt 121 = .ok (.ireturn, 1) := by decide +kernel
theorem dX4_directionAt_122 : decode cX4_directionAt 122 = .ok (.iconst 3, 1) := by decide +kernel
theorem dX4_directionAt_123 : decode cX4_directionAt 123 = .ok (.ireturn, 1) := by decide +kernel
theorem dX4_directionAt_124 : decode cX4_directionAt 124 = .ok (.iconst 4, 1) := by decide +kernel
theorem dX4_directionAt_125 : decode cX4_directionAt 125 = .ok (.ireturn, 1) := by decide +kernel
theorem dX4_directionAt_126 : decode cX4_directionAt 126 = .ok (.iconst 5, 1) := by decide +kernel
theorem dX4_directionAt_127 : decode cX4_directionAt 127 = .ok (.ireturn, 1) := by decide +kernel
theorem dX4_directionAt_128 : decode cX4_directionAt 128 = .ok (.bipush 6, 2) := by decide +kernel
theorem dX4_directionAt_130 : decode cX4_directionAt 130 = .ok (.ireturn, 1) := by decide +kernel
theorem dX4_directionAt_131 : decode cX4_directionAt 131 = .ok (.bipush 7, 2) := by decide +kernel
theorem dX4_directionAt_133 : decode cX4_directionAt 133 = .ok (.ireturn, 1) := by decide +kernel
set_option maxRecDepth 200000 in
theorem ggX4_lineOn_X4_isOn : GoodIn wsX4_lineOn wsX4_isOn := goodIn_r _ [6, 7, 8, 9, 5, 10, 1, 11, 12, 13, 14, 15, 16, 17, 18, 19, 20, 21, 22] rfl (by decide +kernel)
set_option maxRecDepth 200000 in
theorem gX4_lineOn_X4_isOn : GoodIn wsX4_lineOn (wsV RX4 41 RX4 yX4_isOn wsX4_isOn) := goodIn_app (goodIn_of _ (by decide +kernel)) ggX4_lineOn_X4_isOn
theorem dX4_lineOn_0 : decode cX4_lineOn 0 = .ok (.iconst 0, 1) := by decide +kernel
theorem dX4_lineOn_1 : decode cX4_lineOn 1 = .ok (.istore_n 2, 1) := by decide +kernel
theorem dX4_lineOn_2 : decode cX4_lineOn 2 = .ok (.iload_n 2, 1) := by decide +kernel
theorem dX4_lineOn_3 : decode cX4_lineOn 3 = .ok (.aload_n 0, 1) := by decide +kernel
theorem dX4_lineOn_4 : decode cX4_lineOn 4 = .ok (.getfield 28, 3) := by decide +kernel
theorem dX4_lineOn_7 : decode cX4_lineOn 7 = .ok (.if_icmp .ge 20, 3) := by decide +kernel
theorem dX4_lineOn_10 : decode cX4_lineOn 10 = .ok (.aload_n 0, 1) := by decide +kernel
theorem dX4_lineOn_11 : decode cX4_lineOn 11 = .ok (.iload_n 2, 1) := by decide +kernel
theorem dX4_lineOn_12 : decode cX4_lineOn 12 = .ok (.iload_n 1, 1) := by decide +kernel
theorem dX4_lineOn_13 : decode cX4_lineOn 13 = .ok (.invokevirtual 41, 3) := by decide +kernel
theorem dX4_lineOn_16 : decode cX4_lineOn 16 = .ok (.ifCond .eq 5, 3) := by decide +kernel
theorem dX4_lineOn_19 : decode cX4_lineOn 19 = .ok (.iload_n 2, 1) := by decide +kernel
theorem dX4_lineOn_20 : decode cX4_lineOn 20 = .ok (.ireturn, 1) := by decide +kernel
theorem dX4_lineOn_21 : decode cX4_lineOn 21 = .ok (.iinc 2 1, 3) := by decide +kernel
theorem dX4_lineOn_24 : decode cX4_lineOn 24 = .ok (.goto (-22), 3) := by decide +kernel
theorem dX4_lineOn_27 : decode cX4_lineOn 27 = .ok (.iconst (-1), 1) := by decide +kernel
theorem dX4_lineOn_28 : decode cX4_lineOn 28 = .ok (.ireturn, 1) := by decide +kernel
set_option maxRecDepth 200000 in
theorem ggX4_isOn_X4_stepCount : GoodIn wsX4_isOn wsX4_stepCount := goodIn_r _ [5, 6, 7, 13, 14, 15, 16, 17, 18] rfl (by decide +kernel)
set_option maxRecDepth 200000 in
theorem gX4_isOn_X4_stepCount : GoodIn wsX4_isOn (wsV RX4 45 RX4 yX4_stepCount wsX4_stepCount) := goodIn_app (goodIn_of _ (by decide +kernel)) ggX4_isOn_X4_stepCount
set_option maxRecDepth 200000 in
theorem ggX4_isOn_X4_pointAt : GoodIn wsX4_isOn wsX4_pointAt := goodIn_r _ [11, 6, 7, 12, 13, 14, 15, 16, 17, 18] rfl (by decide +kernel)
set_option maxRecDepth 200000 in
theorem gX4_isOn_X4_pointAt : GoodIn wsX4_isOn (wsV RX4 48 RX4 yX4_pointAt wsX4_pointAt) := goodIn_app (goodIn_of _ (by decide +kernel)) ggX4_isOn_X4_pointAt
theorem dX4_isOn_0 : decode cX4_isOn 0 = .ok (.aload_n 0, 1) := by decide +kernel
theorem dX4_isOn_1 : decode cX4_isOn 1 = .ok (.iload_n 1, 1) := by decide +kernel
theorem dX4_isOn_2 : decode cX4_isOn 2 = .ok (.invokevirtual 45, 3) := by decide +kernel
theorem dX4_isOn_5 : decode cX4_isOn 5 = .ok (.istore_n 3, 1) := by decide +kernel
theorem dX4_isOn_6 : decode cX4_isOn 6 = .ok (.iconst 0, 1) := by decide +kernel
theorem dX4_isOn_7 : decode cX4_isOn 7 = .ok (.istore 4, 2) := by decide +kernel
theorem dX4_isOn_9 : decode cX4_isOn 9 = .ok (.iload 4, 2) := by decide +kernel
theorem dX4_isOn_11 : decode cX4_isOn 11 = .ok (.iload_n 3, 1) := by decide +kernel
theorem dX4_isOn_12 : decode cX4_isOn 12 = .ok (.if_icmp .gt 22, 3) := by decide +kernel
theorem dX4_isOn_15 : decode cX4_isOn 15 = .ok (.aload_n 0, 1) := by decide +kernel
theorem dX4_isOn_16 : decode cX4_isOn 16 = .ok (.iload_n 1, 1) := by decide +kernel
theorem dX4_isOn_17 : decode cX4_isOn 17 = .ok (.iload 4, 2) := by decide +kernel
theorem dX4_isOn_19 : decode cX4_isOn 19 = .ok (.invokevirtual 48, 3) := by decide +kernel
theorem dX4_isOn_22 : decode cX4_isOn 22 = .ok (.iload_n 2, 1) := by decide +kernel
theorem dX4_isOn_23 : decode cX4_isOn 23 = .ok (.if_icmp .ne 5, 3) := by decide +kernel
theorem dX4_isOn_26 : decode cX4_isOn 26 = .ok (.iconst 1, 1) := by decide +kernel
theorem dX4_isOn_27 : decode cX4_isOn 27 = .ok (.ireturn, 1) := by decide +kernel
theorem dX4_isOn_28 : decode cX4_isOn 28 = .ok (.iinc 4 1, 3) := by decide +kernel
theorem dX4_isOn_31 : decode cX4_isOn 31 = .ok (.goto (-22), 3) := by decide +kernel
theorem dX4_isOn_34 : decode cX4_isOn 34 = .ok (.iconst 0, 1) := by decide +kernel
theorem dX4_isOn_35 : decode cX4_isOn 35 = .ok (.ireturn, 1) := by decide +kernel
theorem dX4_isRing_0 : decode cX4_isRing 0 = .ok (.iload_n 1, 1) := by decide +kernel
theorem dX4_isRing_1 : decode cX4_isRing 1 = .ok (.ifCond .lt 21, 3) := by decide +kernel
theorem dX4_isRing_4 : decode cX4_isRing 4 = .ok (.iload_n 1, 1) := by decide +kernel
theorem dX4_isRing_5 : decode cX4_isRing 5 = .ok (.aload_n 0, 1) := by decide +kernel
theorem dX4_isRing_6 : decode cX4_isRing 6 = .ok (.getfield 28, 3) := by decide +kernel
theorem dX4_isRing_9 : decode cX4_isRing 9 = .ok (.if_icmp .ge 13, 3) := by decide +kernel
theorem dX4_isRing_12 : decode cX4_isRing 12 = .ok (.aload_n 0, 1) := by decide +kernel
theorem dX4_isRing_13 : decode cX4_isRing 13 = .ok (.getfield 19, 3) := by decide +kernel
theorem dX4_isRing_16 : decode cX4_isRing 16 = .ok (.iload_n 1, 1) := by decide +kernel
theorem dX4_isRing_17 : decode cX4_isRing 17 = .ok (.iaload, 1) := by decide +kernel
theorem dX4_isRing_18 : decode cX4_isRing 18 = .ok (.iconst 4, 1) := by decide +kernel
theorem dX4_isRing_19 : decode cX4_isRing 19 = .ok (.if_icmp .ge 5, 3) := by decide +kernel
theorem dX4_isRing_22 : decode cX4_isRing 22 = .ok (.iconst 0, 1) := by decide +kernel
theorem dX4_isRing_23 : decode cX4_isRing 23 = .ok (.ireturn, 1) := by decide +kernel
theorem dX4_isRing_24 : decode cX4_isRing 24 = .ok (.iload_n 1, 1) := by decide +kernel
theorem dX4_isRing_25 : decode cX4_isRing 25 = .ok (.bipush 61, 2) := by decide +kernel
theorem dX4_isRing_27 : decode cX4_isRing 27 = .ok (.imul, 1) := by decide +kernel
theorem dX4_isRing_28 : decode cX4_isRing 28 = .ok (.istore_n 2, 1) := by decide +kernel
theorem dX4_isRing_29 : decode cX4_isRing 29 = .ok (.aload_n 0, 1) := by decide +kernel
theorem dX4_isRing_30 : decode cX4_isRing 30 = .ok (.getfield 25, 3) := by decide +kernel
theorem dX4_isRing_33 : decode cX4_isRing 33 = .ok (.iload_n 2, 1) := by decide +kernel
theorem dX4_isRing_34 : decode cX4_isRing 34 = .ok (.aload_n 0, 1) := by decide +kernel
theorem dX4_isRing_35 : decode cX4_isRing 35 = .ok (.getfield 19, 3) := by decide +kernel
theorem dX4_isRing_38 : decode cX4_isRing 38 = .ok (.iload_n 1, 1) := by decide +kernel
theorem dX4_isRing_39 : decode cX4_isRing 39 = .ok (.iaload, 1) := by decide +kernel
theorem dX4_isRing_40 : decode cX4_isRing 40 = .ok (.iadd, 1) := by decide +kernel
theorem dX4_isRing_41 : decode cX4_isRing 41 = .ok (.iaload, 1) := by decide +kernel
theorem dX4_isRing_42 : decode cX4_isRing 42 = .ok (.aload_n 0, 1) := by decide +kernel
theorem dX4_isRing_43 : decode cX4_isRing 43 = .ok (.getfield 25, 3) := by decide +kernel
theorem dX4_isRing_46 : decode cX4_isRing 46 = .ok (.iload_n 2, 1) := by decide +kernel
theorem dX4_isRing_47 : decode cX4_isRing 47 = .ok (.iaload, 1) := by decide +kernel
theorem dX4_isRing_48 : decode cX4_isRing 48 = .ok (.if_icmp .ne 7, 3) := by decide +kernel
theorem dX4_isRing_51 : decode cX4_isRing 51 = .ok (.iconst 1, 1) := by decide +kernel
theorem dX4_isRing_52 : decode cX4_isRing 52 = .ok (.goto 4, 3) := by decide +kernel
theorem dX4_isRing_55 : decode cX4_isRing 55 = .ok (.iconst 0, 1) := by decide +kernel
theorem dX4_isRing_56 : decode cX4_isRing 56 = .ok (.ireturn, 1) := by decide +kernel
set_option maxRecDepth 200000 in
theorem ggX4_hasRoomAt_X4_lineOn : GoodIn wsX4_hasRoomAt wsX4_lineOn := goodIn_r _ [6, 1, 7, 8, 9, 5, 10, 11, 12, 13, 14, 15, 16, 17, 18, 19, 20, 21, 22, 23, 24, 25, 26] rfl (by decide +kernel)
set_option maxRecDepth 200000 in
theorem gX4_hasRoomAt_X4_lineOn : GoodIn wsX4_hasRoomAt (wsV RX4 52 RX4 yX4_lineOn wsX4_lineOn) := goodIn_app (goodIn_of _ (by decide +kernel)) ggX4_hasRoomAt_X4_lineOn
theorem dX4_hasRoomAt_0 : decode cX4_hasRoomAt 0 = .ok (.aload_n 0, 1) := by decide +kernel
theorem dX4_hasRoomAt_1 : decode cX4_hasRoomAt 1 = .ok (.getfield 28, 3) := by decide +kernel
theorem dX4_hasRoomAt_4 : decode cX4_hasRoomAt 4 = .ok (.bipush 8, 2) := by decide +kernel
theorem dX4_hasRoomAt_6 : decode cX4_hasRoomAt 6 = .ok (.if_icmp .ge 16, 3) := by decide +kernel
theorem dX4_hasRoomAt_9 : decode cX4_hasRoomAt 9 = .ok (.aload_n 0, 1) := by decide +kernel
theorem dX4_hasRoomAt_10 : decode cX4_hasRoomAt 10 = .ok (.iload_n 1, 1) := by decide +kernel
theorem dX4_hasRoomAt_11 : decode cX4_hasRoomAt 11 = .ok (.invokevirtual 52, 3) := by decide +kernel
theorem dX4_hasRoomAt_14 : decode cX4_hasRoomAt 14 = .ok (.iconst (-1), 1) := by decide +kernel
theorem dX4_hasRoomAt_15 : decode cX4_hasRoomAt 15 = .ok (.if_icmp .ne 7, 3) := by decide +kernel
theorem dX4_hasRoomAt_18 : decode cX4_hasRoomAt 18 = .ok (.iconst 1, 1) := by decide +kernel
theorem dX4_hasRoomAt_19 : decode cX4_hasRoomAt 19 = .ok (.goto 4, 3) := by decide +kernel
theorem dX4_hasRoomAt_22 : decode cX4_hasRoomAt 22 = .ok (.iconst 0, 1) := by decide +kernel
theorem dX4_hasRoomAt_23 : decode cX4_hasRoomAt 23 = .ok (.ireturn, 1) := by decide +kernel
theorem dX4_addLine_0 : decode cX4_addLine 0 = .ok (.aload_n 0, 1) := by decide +kernel
theorem dX4_addLine_1 : decode cX4_addLine 1 = .ok (.getfield 28, 3) := by decide +kernel
theorem dX4_addLine_4 : decode cX4_addLine 4 = .ok (.bipush 8, 2) := by decide +kernel
theorem dX4_addLine_6 : decode cX4_addLine 6 = .ok (.if_icmp .lt 5, 3) := by decide +kernel
theorem dX4_addLine_9 : decode cX4_addLine 9 = .ok (.iconst (-1), 1) := by decide +kernel
theorem dX4_addLine_10 : decode cX4_addLine 10 = .ok (.ireturn, 1) := by decide +kernel
theorem dX4_addLine_11 : decode cX4_addLine 11 = .ok (.aload_n 0, 1) := by decide +kernel
theorem dX4_addLine_12 : decode cX4_addLine 12 = .ok (.getfield 28, 3) := by decide +kernel
theorem dX4_addLine_15 : decode cX4_addLine 15 = .ok (.istore_n 3, 1) := by decide +kernel
theorem dX4_addLine_16 : decode cX4_addLine 16 = .ok (.aload_n 0, 1) := by decide +kernel
theorem dX4_addLine_17 : decode cX4_addLine 17 = .ok (.getfield 15, 3) := by decide +kernel
theorem dX4_addLine_20 : decode cX4_addLine 20 = .ok (.iload_n 3, 1) := by decide +kernel
theorem dX4_addLine_21 : decode cX4_addLine 21 = .ok (.iload_n 1, 1) := by decide +kernel
theorem dX4_addLine_22 : decode cX4_addLine 22 = .ok (.iastore, 1) := by decide +kernel
theorem dX4_addLine_23 : decode cX4_addLine 23 = .ok (.aload_n 0, 1) := by decide +kernel
theorem dX4_addLine_24 : decode cX4_addLine 24 = .ok (.getfield 19, 3) := by decide +kernel
theorem dX4_addLine_27 : decode cX4_addLine 27 = .ok (.iload_n 3, 1) := by decide +kernel
theorem dX4_addLine_28 : decode cX4_addLine 28 = .ok (.iconst 0, 1) := by decide +kernel
theorem dX4_addLine_29 : decode cX4_addLine 29 = .ok (.iastore, 1) := by decide +kernel
theorem dX4_addLine_30 : decode cX4_addLine 30 = .ok (.aload_n 0, 1) := by decide +kernel
theorem dX4_addLine_31 : decode cX4_addLine 31 = .ok (.getfield 22, 3) := by decide +kernel
theorem dX4_addLine_34 : decode cX4_addLine 34 = .ok (.iload_n 3, 1) := by decide +kernel
theorem dX4_addLine_35 : decode cX4_addLine 35 = .ok (.iconst (-1), 1) := by decide +kernel
theorem dX4_addLine_36 : decode cX4_addLine 36 = .ok (.iastore, 1) := by decide +kernel
theorem dX4_addLine_37 : decode cX4_addLine 37 = .ok (.aload_n 0, 1) := by decide +kernel
theorem dX4_addLine_38 : decode cX4_addLine 38 = .ok (.getfield 25, 3) := by decide +kernel
theorem dX4_addLine_41 : decode cX4_addLine 41 = .ok (.iload_n 3, 1) := by decide +kernel
theorem dX4_addLine_42 : decode cX4_addLine 42 = .ok (.bipush 61, 2) := by decide +kernel
theorem dX4_addLine_44 : decode cX4_addLine 44 = .ok (.imul, 1) := by decide +kernel
theorem dX4_addLine_45 : decode cX4_addLine 45 = .ok (.iload_n 2, 1) := by decide +kernel
theorem dX4_addLine_46 : decode cX4_addLine 46 = .ok (.iastore, 1) := by decide +kernel
theorem dX4_addLine_47 : decode cX4_addLine 47 = .ok (.aload_n 0, 1) := by decide +kernel
theorem dX4_addLine_48 : decode cX4_addLine 48 = .ok (.dup, 1) := by decide +kernel
theorem dX4_addLine_49 : decode cX4_addLine 49 = .ok (.getfield 28, 3) := by decide +kernel
theorem dX4_addLine_52 : decode cX4_addLine 52 = .ok (.iconst 1, 1) := by decide +kernel
theorem dX4_addLine_53 : decode cX4_addLine 53 = .ok (.iadd, 1) := by decide +kernel
theorem dX4_addLine_54 : decode cX4_addLine 54 = .ok (.putfield 28, 3) := by decide +kernel
theorem dX4_addLine_57 : decode cX4_addLine 57 = .ok (.iload_n 3, 1) := by decide +kernel
theorem dX4_addLine_58 : decode cX4_addLine 58 = .ok (.ireturn, 1) := by decide +kernel
set_option maxRecDepth 200000 in
theorem ggX4_addStep_X4_stepCount : GoodIn wsX4_addStep wsX4_stepCount := goodIn_r _ [7, 8, 2, 30, 31, 32, 33, 34, 35] rfl (by decide +kernel)
set_option maxRecDepth 200000 in
theorem gX4_addStep_X4_stepCount : GoodIn wsX4_addStep (wsV RX4 45 RX4 yX4_stepCount wsX4_stepCount) := goodIn_app (goodIn_of _ (by decide +kernel)) ggX4_addStep_X4_stepCount
set_option maxRecDepth 200000 in
theorem ggX4_addStep_X4_pointAt : GoodIn wsX4_addStep wsX4_pointAt := goodIn_r _ [12, 8, 2, 1, 30, 31, 32, 33, 34, 35] rfl (by decide +kernel)
set_option maxRecDepth 200000 in
theorem gX4_addStep_X4_pointAt : GoodIn wsX4_addStep (wsV RX4 48 RX4 yX4_pointAt wsX4_pointAt) := goodIn_app (goodIn_of _ (by decide +kernel)) ggX4_addStep_X4_pointAt
set_option maxRecDepth 200000 in
theorem ggX4_addStep_X6_pointBeside : GoodIn wsX4_addStep wsX6_pointBeside := goodIn_r _ [15, 16, 17, 18, 19, 14, 20, 21, 22, 23, 24, 25, 26, 27, 28, 29] rfl (by decide +kernel)
set_option maxRecDepth 200000 in
theorem gX4_addStep_X6_pointBeside_n55 : GoodIn wsX4_addStep (wsX6_pointBeside) := ggX4_addStep_X6_pointBeside
theorem dX4_addStep_0 : decode cX4_addStep 0 = .ok (.aload_n 0, 1) := by decide +kernel
theorem dX4_addStep_1 : decode cX4_addStep 1 = .ok (.iload_n 1, 1) := by decide +kernel
theorem dX4_addStep_2 : decode cX4_addStep 2 = .ok (.invokevirtual 45, 3) := by decide +kernel
theorem dX4_addStep_5 : decode cX4_addStep 5 = .ok (.istore_n 3, 1) := by decide +kernel
theorem dX4_addStep_6 : decode cX4_addStep 6 = .ok (.iload_n 3, 1) := by decide +kernel
theorem dX4_addStep_7 : decode cX4_addStep 7 = .ok (.ifCond .lt 9, 3) := by decide +kernel
theorem dX4_addStep_10 : decode cX4_addStep 10 = .ok (.iload_n 3, 1) := by decide +kernel
theorem dX4_addStep_11 : decode cX4_addStep 11 = .ok (.bipush 60, 2) := by decide +kernel
theorem dX4_addStep_13 : decode cX4_addStep 13 = .ok (.if_icmp .lt 4, 3) := by decide +kernel
theorem dX4_addStep_16 : decode cX4_addStep 16 = .ok (.return_, 1) := by decide +kernel
theorem dX4_addStep_17 : decode cX4_addStep 17 = .ok (.aload_n 0, 1) := by decide +kernel
theorem dX4_addStep_18 : decode cX4_addStep 18 = .ok (.getfield 25, 3) := by decide +kernel
theorem dX4_addStep_21 : decode cX4_addStep 21 = .ok (.iload_n 1, 1) := by decide +kernel
theorem dX4_addStep_22 : decode cX4_addStep 22 = .ok (.bipush 61, 2) := by decide +kernel
theorem dX4_addStep_24 : decode cX4_addStep 24 = .ok (.imul, 1) := by decide +kernel
theorem dX4_addStep_25 : decode cX4_addStep 25 = .ok (.iload_n 3, 1) := by decide +kernel
theorem dX4_addStep_26 : decode cX4_addStep 26 = .ok (.iadd, 1) := by decide +kernel
theorem dX4_addStep_27 : decode cX4_addStep 27 = .ok (.iconst 1, 1) := by decide +kernel
theorem dX4_addStep_28 : decode cX4_addStep 28 = .ok (.iadd, 1) := by decide +kernel
theorem dX4_addStep_29 : decode cX4_addStep 29 = .ok (.aload_n 0, 1) := by decide +kernel
theorem dX4_addStep_30 : decode cX4_addStep 30 = .ok (.iload_n 1, 1) := by decide +kernel
theorem dX4_addStep_31 : decode cX4_addStep 31 = .ok (.iload_n 3, 1) := by decide +kernel
theorem dX4_addStep_32 : decode cX4_addStep 32 = .ok (.invokevirtual 48, 3) := by decide +kernel
theorem dX4_addStep_35 : decode cX4_addStep 35 = .ok (.iload_n 2, 1) := by decide +kernel
theorem dX4_addStep_36 : decode cX4_addStep 36 = .ok (.invokestatic 55, 3) := by decide +kernel
theorem dX4_addStep_39 : decode cX4_addStep 39 = .ok (.iastore, 1) := by decide +kernel
theorem dX4_addStep_40 : decode cX4_addStep 40 = .ok (.aload_n 0, 1) := by decide +kernel
theorem dX4_addStep_41 : decode cX4_addStep 41 = .ok (.getfield 19, 3) := by decide +kernel
theorem dX4_addStep_44 : decode cX4_addStep 44 = .ok (.iload_n 1, 1) := by decide +kernel
theorem dX4_addStep_45 : decode cX4_addStep 45 = .ok (.iload_n 3, 1) := by decide +kernel
theorem dX4_addStep_46 : decode cX4_addStep 46 = .ok (.iconst 1, 1) := by decide +kernel
theorem dX4_addStep_47 : decode cX4_addStep 47 = .ok (.iadd, 1) := by decide +kernel
theorem dX4_addStep_48 : decode cX4_addStep 48 = .ok (.iastore, 1) := by decide +kernel
theorem dX4_addStep_49 : decode cX4_addStep 49 = .ok (.return_, 1) := by decide +kernel
set_option maxRecDepth 200000 in
theorem ggX4_removeLine_X4_hasLine : GoodIn wsX4_removeLine wsX4_hasLine := goodIn_r _ [10, 5, 19, 20, 21, 22, 23, 24] rfl (by decide +kernel)
set_option maxRecDepth 200000 in
theorem gX4_removeLine_X4_hasLine : GoodIn wsX4_removeLine (wsV RX4 58 RX4 yX4_hasLine wsX4_hasLine) := goodIn_app (goodIn_of _ (by decide +kernel)) ggX4_removeLine_X4_hasLine
set_option maxRecDepth 200000 in
theorem ggX4_removeLine_X4_closeUp : GoodIn wsX4_removeLine wsX4_closeUp := goodIn_r _ [14, 5, 15, 16, 17, 18, 19, 20, 21, 22, 23, 24] rfl (by decide +kernel)
set_option maxRecDepth 200000 in
theorem gX4_removeLine_X4_closeUp : GoodIn wsX4_removeLine (wsV RX4 62 RX4 yX4_closeUp wsX4_closeUp) := goodIn_app (goodIn_of _ (by decide +kernel)) ggX4_removeLine_X4_closeUp
theorem dX4_removeLine_0 : decode cX4_removeLine 0 = .ok (.aload_n 0, 1) := by decide +kernel
theorem dX4_removeLine_1 : decode cX4_removeLine 1 = .ok (.iload_n 1, 1) := by decide +kernel
theorem dX4_removeLine_2 : decode cX4_removeLine 2 = .ok (.invokevirtual 58, 3) := by decide +kernel
theorem dX4_removeLine_5 : decode cX4_removeLine 5 = .ok (.ifCond .ne 5, 3) := by decide +kernel
theorem dX4_removeLine_8 : decode cX4_removeLine 8 = .ok (.iconst 0, 1) := by decide +kernel
theorem dX4_removeLine_9 : decode cX4_removeLine 9 = .ok (.ireturn, 1) := by decide +kernel
theorem dX4_removeLine_10 : decode cX4_removeLine 10 = .ok (.aload_n 0, 1) := by decide +kernel
theorem dX4_removeLine_11 : decode cX4_removeLine 11 = .ok (.aload_n 0, 1) := by decide +kernel
theorem dX4_removeLine_12 : decode cX4_removeLine 12 = .ok (.getfield 15, 3) := by decide +kernel
theorem dX4_removeLine_15 : decode cX4_removeLine 15 = .ok (.iload_n 1, 1) := by decide +kernel
theorem dX4_removeLine_16 : decode cX4_removeLine 16 = .ok (.iconst 1, 1) := by decide +kernel
theorem dX4_removeLine_17 : decode cX4_removeLine 17 = .ok (.invokevirtual 62, 3) := by decide +kernel
theorem dX4_removeLine_20 : decode cX4_removeLine 20 = .ok (.aload_n 0, 1) := by decide +kernel
theorem dX4_removeLine_21 : decode cX4_removeLine 21 = .ok (.aload_n 0, 1) := by decide +kernel
theorem dX4_removeLine_22 : decode cX4_removeLine 22 = .ok (.getfield 19, 3) := by decide +kernel
theorem dX4_removeLine_25 : decode cX4_removeLine 25 = .ok (.iload_n 1, 1) := by decide +kernel
theorem dX4_removeLine_26 : decode cX4_removeLine 26 = .ok (.iconst 1, 1) := by decide +kernel
theorem dX4_removeLine_27 : decode cX4_removeLine 27 = .ok (.invokevirtual 62, 3) := by decide +kernel
theorem dX4_removeLine_30 : decode cX4_removeLine 30 = .ok (.aload_n 0, 1) := by decide +kernel
theorem dX4_removeLine_31 : decode cX4_removeLine 31 = .ok (.aload_n 0, 1) := by decide +kernel
theorem dX4_removeLine_32 : decode cX4_removeLine 32 = .ok (.getfield 22, 3) := by decide +kernel
theorem dX4_removeLine_35 : decode cX4_removeLine 35 = .ok (.iload_n 1, 1) := by decide +kernel
theorem dX4_removeLine_36 : decode cX4_removeLine 36 = .ok (.iconst 1, 1) := by decide +kernel
theorem dX4_removeLine_37 : decode cX4_removeLine 37 = .ok (.invokevirtual 62, 3) := by decide +kernel
theorem dX4_removeLine_40 : decode cX4_removeLine 40 = .ok (.aload_n 0, 1) := by decide +kernel
theorem dX4_removeLine_41 : decode cX4_removeLine 41 = .ok (.aload_n 0, 1) := by decide +kernel
theorem dX4_removeLine_42 : decode cX4_removeLine 42 = .ok (.getfield 25, 3) := by decide +kernel
theorem dX4_removeLine_45 : decode cX4_removeLine 45 = .ok (.iload_n 1, 1) := by decide +kernel
theorem dX4_removeLine_46 : decode cX4_removeLine 46 = .ok (.bipush 61, 2) := by decide +kernel
theorem dX4_removeLine_48 : decode cX4_removeLine 48 = .ok (.invokevirtual 62, 3) := by decide +kernel
theorem dX4_removeLine_51 : decode cX4_removeLine 51 = .ok (.aload_n 0, 1) := by decide +kernel
theorem dX4_removeLine_52 : decode cX4_removeLine 52 = .ok (.dup, 1) := by decide +kernel
theorem dX4_removeLine_53 : decode cX4_removeLine 53 = .ok (.getfield 28, 3) := by decide +kernel
theorem dX4_removeLine_56 : decode cX4_removeLine 56 = .ok (.iconst 1, 1) := by decide +kernel
theorem dX4_removeLine_57 : decode cX4_removeLine 57 = .ok (.isub, 1) := by decide +kernel
theorem dX4_removeLine_58 : decode cX4_removeLine 58 = .ok (.putfield 28, 3) := by decide +kernel
theorem dX4_removeLine_61 : decode cX4_removeLine 61 = .ok (.iconst 1, 1) := by decide +kernel
theorem dX4_removeLine_62 : decode cX4_removeLine 62 = .ok (.ireturn, 1) := by decide +kernel
theorem dX4_closeUp_0 : decode cX4_closeUp 0 = .ok (.aload_n 1, 1) := by decide +kernel
theorem dX4_closeUp_1 : decode cX4_closeUp 1 = .ok (.iload_n 2, 1) := by decide +kernel
theorem dX4_closeUp_2 : decode cX4_closeUp 2 = .ok (.iconst 1, 1) := by decide +kernel
theorem dX4_closeUp_3 : decode cX4_closeUp 3 = .ok (.iadd, 1) := by decide +kernel
theorem dX4_closeUp_4 : decode cX4_closeUp 4 = .ok (.iload_n 3, 1) := by decide +kernel
theorem dX4_closeUp_5 : decode cX4_closeUp 5 = .ok (.imul, 1) := by decide +kernel
theorem dX4_closeUp_6 : decode cX4_closeUp 6 = .ok (.aload_n 1, 1) := by decide +kernel
theorem dX4_closeUp_7 : decode cX4_closeUp 7 = .ok (.iload_n 2, 1) := by decide +kernel
theorem dX4_closeUp_8 : decode cX4_closeUp 8 = .ok (.iload_n 3, 1) := by decide +kernel
theorem dX4_closeUp_9 : decode cX4_closeUp 9 = .ok (.imul, 1) := by decide +kernel
theorem dX4_closeUp_10 : decode cX4_closeUp 10 = .ok (.aload_n 0, 1) := by decide +kernel
theorem dX4_closeUp_11 : decode cX4_closeUp 11 = .ok (.getfield 28, 3) := by decide +kernel
theorem dX4_closeUp_14 : decode cX4_closeUp 14 = .ok (.iload_n 2, 1) := by decide +kernel
theorem dX4_closeUp_15 : decode cX4_closeUp 15 = .ok (.isub, 1) := by decide +kernel
theorem dX4_closeUp_16 : decode cX4_closeUp 16 = .ok (.iconst 1, 1) := by decide +kernel
theorem dX4_closeUp_17 : decode cX4_closeUp 17 = .ok (.isub, 1) := by decide +kernel
theorem dX4_closeUp_18 : decode cX4_closeUp 18 = .ok (.iload_n 3, 1) := by decide +kernel
theorem dX4_closeUp_19 : decode cX4_closeUp 19 = .ok (.imul, 1) := by decide +kernel
theorem dX4_closeUp_20 : decode cX4_closeUp 20 = .ok (.invokestatic 31, 3) := by decide +kernel
theorem dX4_closeUp_23 : decode cX4_closeUp 23 = .ok (.return_, 1) := by decide +kernel
set_option maxRecDepth 200000 in
theorem ggX4_reasonAgainstStep_X4_isRing : GoodIn wsX4_reasonAgainstStep wsX4_isRing := goodIn_r _ [5, 6, 7, 8, 52, 53, 54, 55, 56, 57] rfl (by decide +kernel)
set_option maxRecDepth 200000 in
theorem gX4_reasonAgainstStep_X4_isRing : GoodIn wsX4_reasonAgainstStep (wsV RX4 66 RX4 yX4_isRing wsX4_isRing) := goodIn_app (goodIn_of _ (by decide +kernel)) ggX4_reasonAgainstStep_X4_isRing
set_option maxRecDepth 200000 in
theorem ggX4_reasonAgainstStep_X4_stepCount : GoodIn wsX4_reasonAgainstStep wsX4_stepCount := goodIn_r _ [12, 6, 7, 52, 53, 54, 55, 56, 57] rfl (by decide +kernel)
set_option maxRecDepth 200000 in
theorem gX4_reasonAgainstStep_X4_stepCount : GoodIn wsX4_reasonAgainstStep (wsV RX4 45 RX4 yX4_stepCount wsX4_stepCount) := goodIn_app (goodIn_of _ (by decide +kernel)) ggX4_reasonAgainstStep_X4_stepCount
set_option maxRecDepth 200000 in
theorem ggX4_reasonAgainstStep_X4_pointAt : GoodIn wsX4_reasonAgainstStep wsX4_pointAt := goodIn_r _ [16, 6, 7, 8, 52, 53, 54, 55, 56, 57] rfl (by decide +kernel)
set_option maxRecDepth 200000 in
theorem gX4_reasonAgainstStep_X4_pointAt : GoodIn wsX4_reasonAgainstStep (wsV RX4 48 RX4 yX4_pointAt wsX4_pointAt) := goodIn_app (goodIn_of _ (by decide +kernel)) ggX4_reasonAgainstStep_X4_pointAt
set_option maxRecDepth 200000 in
theorem ggX4_reasonAgainstStep_X6_pointBeside : GoodIn wsX4_reasonAgainstStep wsX6_pointBeside := goodIn_r _ [19, 20, 21, 22, 23, 18, 24, 25, 26, 27, 28, 29, 30, 31, 32, 33] rfl (by decide +kernel)
set_option maxRecDepth 200000 in
theorem gX4_reasonAgainstStep_X6_pointBeside_n55 : GoodIn wsX4_reasonAgainstStep (wsX6_pointBeside) := ggX4_reasonAgainstStep_X6_pointBeside
set_option maxRecDepth 200000 in
theorem ggX4_reasonAgainstStep_X4_lineOn : GoodIn wsX4_reasonAgainstStep wsX4_lineOn := goodIn_r _ [37, 6, 38, 39, 40, 4, 41, 9, 10, 11, 12, 7, 13, 14, 15, 16, 8, 52, 53, 54, 55, 56, 57] rfl (by decide +kernel)
set_option maxRecDepth 200000 in
theorem gX4_reasonAgainstStep_X4_lineOn : GoodIn wsX4_reasonAgainstStep (wsV RX4 52 RX4 yX4_lineOn wsX4_lineOn) := goodIn_app (goodIn_of _ (by decide +kernel)) ggX4_reasonAgainstStep_X4_lineOn
set_option maxRecDepth 200000 in
theorem ggX4_reasonAgainstStep_X4_crosses : GoodIn wsX4_reasonAgainstStep wsX4_crosses := goodIn_r _ [45, 6, 26, 18, 27, 46, 47, 48, 49, 50, 4, 51, 9, 10, 11, 12, 7, 13, 14, 15, 16, 8, 52, 53, 54, 55, 56, 57] rfl (by decide +kernel)
set_option maxRecDepth 200000 in
theorem gX4_reasonAgainstStep_X4_crosses : GoodIn wsX4_reasonAgainstStep (wsV RX4 69 RX4 yX4_crosses wsX4_crosses) := goodIn_app (goodIn_of _ (by decide +kernel)) ggX4_reasonAgainstStep_X4_crosses
theorem dX4_reasonAgainstStep_0 : decode cX4_reasonAgainstStep 0 = .ok (.aload_n 0, 1) := by decide +kernel
theorem dX4_reasonAgainstStep_1 : decode cX4_reasonAgainstStep 1 = .ok (.iload_n 1, 1) := by decide +kernel
theorem dX4_reasonAgainstStep_2 : decode cX4_reasonAgainstStep 2 = .ok (.invokevirtual 66, 3) := by decide +kernel
theorem dX4_reasonAgainstStep_5 : decode cX4_reasonAgainstStep 5 = .ok (.ifCond .eq 5, 3) := by decide +kernel
theorem dX4_reasonAgainstStep_8 : decode cX4_reasonAgainstStep 8 = .ok (.iconst 1, 1) := by decide +kernel
theorem dX4_reasonAgainstStep_9 : decode cX4_reasonAgainstStep 9 = .ok (.ireturn, 1) := by decide +kernel
theorem dX4_reasonAgainstStep_10 : decode cX4_reasonAgainstStep 10 = .ok (.aload_n 0, 1) := by decide +kernel
theorem dX4_reasonAgainstStep_11 : decode cX4_reasonAgainstStep 11 = .ok (.iload_n 1, 1) := by decide +kernel
theorem dX4_reasonAgainstStep_12 : decode cX4_reasonAgainstStep 12 = .ok (.invokevirtual 45, 3) := by decide +kernel
theorem dX4_reasonAgainstStep_15 : decode cX4_reasonAgainstStep 15 = .ok (.istore_n 3, 1) := by decide +kernel
theorem dX4_reasonAgainstStep_16 : decode cX4_reasonAgainstStep 16 = .ok (.iload_n 3, 1) := by decide +kernel
theorem dX4_reasonAgainstStep_17 : decode cX4_reasonAgainstStep 17 = .ok (.bipush 60, 2) := by decide +kernel
theorem dX4_reasonAgainstStep_19 : decode cX4_reasonAgainstStep 19 = .ok (.if_icmp .lt 5, 3) := by decide +kernel
theorem dX4_reasonAgainstStep_22 : decode cX4_reasonAgainstStep 22 = .ok (.iconst 2, 1) := by decide +kernel
theorem dX4_reasonAgainstStep_23 : decode cX4_reasonAgainstStep 23 = .ok (.ireturn, 1) := by decide +kernel
theorem dX4_reasonAgainstStep_24 : decode cX4_reasonAgainstStep 24 = .ok (.aload_n 0, 1) := by decide +kernel
theorem dX4_reasonAgainstStep_25 : decode cX4_reasonAgainstStep 25 = .ok (.iload_n 1, 1) := by decide +kernel
theorem dX4_reasonAgainstStep_26 : decode cX4_reasonAgainstStep 26 = .ok (.iload_n 3, 1) := by decide +kernel
theorem dX4_reasonAgainstStep_27 : decode cX4_reasonAgainstStep 27 = .ok (.invokevirtual 48, 3) := by decide +kernel
theorem dX4_reasonAgainstStep_30 : decode cX4_reasonAgainstStep 30 = .ok (.istore 4, 2) := by decide +kernel
theorem dX4_reasonAgainstStep_32 : decode cX4_reasonAgainstStep 32 = .ok (.iload 4, 2) := by decide +kernel
theorem dX4_reasonAgainstStep_34 : decode cX4_reasonAgainstStep 34 = .ok (.iload_n 2, 1) := by decide +kernel
theorem dX4_reasonAgainstStep_35 : decode cX4_reasonAgainstStep 35 = .ok (.invokestatic 55, 3) := by decide +kernel
theorem dX4_reasonAgainstStep_38 : decode cX4_reasonAgainstStep 38 = .ok (.istore 5, 2) := by decide +kernel
theorem dX4_reasonAgainstStep_40 : decode cX4_reasonAgainstStep 40 = .ok (.iload 5, 2) := by decide +kernel
theorem dX4_reasonAgainstStep_42 : decode cX4_reasonAgainstStep 42 = .ok (.iconst (-1), 1) := by decide +kernel
theorem dX4_reasonAgainstStep_43 : decode cX4_reasonAgainstStep 43 = .ok (.if_icmp .ne 5, 3) := by decide +kernel
theorem dX4_reasonAgainstStep_46 : decode cX4_reasonAgainstStep 46 = .ok (.iconst 3, 1) := by decide +kernel
theorem dX4_reasonAgainstStep_47 : decode cX4_reasonAgainstStep 47 = .ok (.ireturn, 1) := by decide +kernel
theorem dX4_reasonAgainstStep_48 : decode cX4_reasonAgainstStep 48 = .ok (.iload_n 3, 1) := by decide +kernel
theorem dX4_reasonAgainstStep_49 : decode cX4_reasonAgainstStep 49 = .ok (.iconst 1, 1) := by decide +kernel
theorem dX4_reasonAgainstStep_50 : decode cX4_reasonAgainstStep 50 = .ok (.iadd, 1) := by decide +kernel
theorem dX4_reasonAgainstStep_51 : decode cX4_reasonAgainstStep 51 = .ok (.iconst 4, 1) := by decide +kernel
theorem dX4_reasonAgainstStep_52 : decode cX4_reasonAgainstStep 52 = .ok (.if_icmp .lt 18, 3) := by decide +kernel
theorem dX4_reasonAgainstStep_55 : decode cX4_reasonAgainstStep 55 = .ok (.iload 5, 2) := by decide +kernel
theorem dX4_reasonAgainstStep_57 : decode cX4_reasonAgainstStep 57 = .ok (.aload_n 0, 1) := by decide +kernel
theorem dX4_reasonAgainstStep_58 : decode cX4_reasonAgainstStep 58 = .ok (.iload_n 1, 1) := by decide +kernel
theorem dX4_reasonAgainstStep_59 : decode cX4_reasonAgainstStep 59 = .ok (.iconst 0, 1) := by decide +kernel
theorem dX4_reasonAgainstStep_60 : decode cX4_reasonAgainstStep 60 = .ok (.invokevirtual 48, 3) := by decide +kernel
theorem dX4_reasonAgainstStep_63 : decode cX4_reasonAgainstStep 63 = .ok (.if_icmp .ne 7, 3) := by decide +kernel
theorem dX4_reasonAgainstStep_66 : decode cX4_reasonAgainstStep 66 = .ok (.iconst 1, 1) := by decide +kernel
theorem dX4_reasonAgainstStep_67 : decode cX4_reasonAgainstStep 67 = .ok (.goto 4, 3) := by decide +kernel
theorem dX4_reasonAgainstStep_70 : decode cX4_reasonAgainstStep 70 = .ok (.iconst 0, 1) := by decide +kernel
theorem dX4_reasonAgainstStep_71 : decode cX4_reasonAgainstStep 71 = .ok (.istore 6, 2) := by decide +kernel
theorem dX4_reasonAgainstStep_73 : decode cX4_reasonAgainstStep 73 = .ok (.iload 6, 2) := by decide +kernel
theorem dX4_reasonAgainstStep_75 : decode cX4_reasonAgainstStep 75 = .ok (.ifCond .ne 15, 3) := by decide +kernel
theorem dX4_reasonAgainstStep_78 : decode cX4_reasonAgainstStep 78 = .ok (.aload_n 0, 1) := by decide +kernel
theorem dX4_reasonAgainstStep_79 : decode cX4_reasonAgainstStep 79 = .ok (.iload 5, 2) := by decide +kernel
theorem dX4_reasonAgainstStep_81 : decode cX4_reasonAgainstStep 81 = .ok (.invokevirtual 52, 3) := by decide +kernel
theorem dX4_reasonAgainstStep_84 : decode cX4_reasonAgainstStep 84 = .ok (.iconst (-1), 1) := by decide +kernel
theorem dX4_reasonAgainstStep_85 : decode cX4_reasonAgainstStep 85 = .ok (.if_icmp .eq 5, 3) := by decide +kernel
theorem dX4_reasonAgainstStep_88 : decode cX4_reasonAgainstStep 88 = .ok (.iconst 4, 1) := by decide +kernel
theorem dX4_reasonAgainstStep_89 : decode cX4_reasonAgainstStep 89 = .ok (.ireturn, 1) := by decide +kernel
theorem dX4_reasonAgainstStep_90 : decode cX4_reasonAgainstStep 90 = .ok (.aload_n 0, 1) := by decide +kernel
theorem dX4_reasonAgainstStep_91 : decode cX4_reasonAgainstStep 91 = .ok (.iload 4, 2) := by decide +kernel
theorem dX4_reasonAgainstStep_93 : decode cX4_reasonAgainstStep 93 = .ok (.iload_n 2, 1) := by decide +kernel
theorem dX4_reasonAgainstStep_94 : decode cX4_reasonAgainstStep 94 = .ok (.invokevirtual 69, 3) := by decide +kernel
theorem dX4_reasonAgainstStep_97 : decode cX4_reasonAgainstStep 97 = .ok (.ifCond .eq 7, 3) := by decide +kernel
theorem dX4_reasonAgainstStep_100 : decode cX4_reasonAgainstStep 100 = .ok (.iconst 5, 1) := by decide +kernel
theorem dX4_reasonAgainstStep_101 : decode cX4_reasonAgainstStep 101 = .ok (.goto 4, 3) := by decide +kernel
theorem dX4_reasonAgainstStep_104 : decode cX4_reasonAgainstStep 104 = .ok (.iconst 0, 1) := by decide +kernel
theorem dX4_reasonAgainstStep_105 : decode cX4_reasonAgainstStep 105 = .ok (.ireturn, 1) := by decide +kernel
set_option maxRecDepth 200000 in
theorem ggX4_crosses_X6_isDirection : GoodIn wsX4_crosses wsX6_isDirection := goodIn_r _ [4] rfl (by decide +kernel)
set_option maxRecDepth 200000 in
theorem gX4_crosses_X6_isDirection_n72 : GoodIn wsX4_crosses (wsX6_isDirection) := ggX4_crosses_X6_isDirection
set_option maxRecDepth 200000 in
theorem ggX4_crosses_X6_isSlanting : GoodIn wsX4_crosses wsX6_isSlanting := goodIn_r _ [6] rfl (by decide +kernel)
set_option maxRecDepth 200000 in
theorem gX4_crosses_X6_isSlanting_n75 : GoodIn wsX4_crosses (wsX6_isSlanting) := ggX4_crosses_X6_isSlanting
set_option maxRecDepth 200000 in
theorem ggX4_crosses_X4_joins : GoodIn wsX4_crosses wsX4_joins := goodIn_r _ [11, 12, 13, 14, 10, 15, 1, 16, 17, 18, 19, 20, 21, 22, 23, 24, 25, 26, 27] rfl (by decide +kernel)
set_option maxRecDepth 200000 in
theorem gX4_crosses_X4_joins : GoodIn wsX4_crosses (wsV RX4 84 RX4 yX4_joins wsX4_joins) := goodIn_app (goodIn_of _ (by decide +kernel)) ggX4_crosses_X4_joins
theorem dX4_crosses_0 : decode cX4_crosses 0 = .ok (.iload_n 2, 1) := by decide +kernel
theorem dX4_crosses_1 : decode cX4_crosses 1 = .ok (.invokestatic 72, 3) := by decide +kernel
theorem dX4_crosses_4 : decode cX4_crosses 4 = .ok (.ifCond .eq 10, 3) := by decide +kernel
theorem dX4_crosses_7 : decode cX4_crosses 7 = .ok (.iload_n 2, 1) := by decide +kernel
theorem dX4_crosses_8 : decode cX4_crosses 8 = .ok (.invokestatic 75, 3) := by decide +kernel
theorem dX4_crosses_11 : decode cX4_crosses 11 = .ok (.ifCond .ne 5, 3) := by decide +kernel
theorem dX4_crosses_14 : decode cX4_crosses 14 = .ok (.iconst 0, 1) := by decide +kernel
theorem dX4_crosses_15 : decode cX4_crosses 15 = .ok (.ireturn, 1) := by decide +kernel
theorem dX4_crosses_16 : decode cX4_crosses 16 = .ok (.iload_n 1, 1) := by decide +kernel
theorem dX4_crosses_17 : decode cX4_crosses 17 = .ok (.getstatic 78, 3) := by decide +kernel
theorem dX4_crosses_20 : decode cX4_crosses 20 = .ok (.iload_n 2, 1) := by decide +kernel
theorem dX4_crosses_21 : decode cX4_crosses 21 = .ok (.iaload, 1) := by decide +kernel
theorem dX4_crosses_22 : decode cX4_crosses 22 = .ok (.iadd, 1) := by decide +kernel
theorem dX4_crosses_23 : decode cX4_crosses 23 = .ok (.istore_n 3, 1) := by decide +kernel
theorem dX4_crosses_24 : decode cX4_crosses 24 = .ok (.iload_n 1, 1) := by decide +kernel
theorem dX4_crosses_25 : decode cX4_crosses 25 = .ok (.bipush 24, 2) := by decide +kernel
theorem dX4_crosses_27 : decode cX4_crosses 27 = .ok (.getstatic 81, 3) := by decide +kernel
theorem dX4_crosses_30 : decode cX4_crosses 30 = .ok (.iload_n 2, 1) := by decide +kernel
theorem dX4_crosses_31 : decode cX4_crosses 31 = .ok (.iaload, 1) := by decide +kernel
theorem dX4_crosses_32 : decode cX4_crosses 32 = .ok (.imul, 1) := by decide +kernel
theorem dX4_crosses_33 : decode cX4_crosses 33 = .ok (.iadd, 1) := by decide +kernel
theorem dX4_crosses_34 : decode cX4_crosses 34 = .ok (.istore 4, 2) := by decide +kernel
theorem dX4_crosses_36 : decode cX4_crosses 36 = .ok (.iconst 0, 1) := by decide +kernel
theorem dX4_crosses_37 : decode cX4_crosses 37 = .ok (.istore 5, 2) := by decide +kernel
theorem dX4_crosses_39 : decode cX4_crosses 39 = .ok (.iload 5, 2) := by decide +kernel
theorem dX4_crosses_41 : decode cX4_crosses 41 = .ok (.aload_n 0, 1) := by decide +kernel
theorem dX4_crosses_42 : decode cX4_crosses 42 = .ok (.getfield 28, 3) := by decide +kernel
theorem dX4_crosses_45 : decode cX4_crosses 45 = .ok (.if_icmp .ge 23, 3) := by decide +kernel
theorem dX4_crosses_48 : decode cX4_crosses 48 = .ok (.aload_n 0, 1) := by decide +kernel
theorem dX4_crosses_49 : decode cX4_crosses 49 = .ok (.iload 5, 2) := by decide +kernel
theorem dX4_crosses_51 : decode cX4_crosses 51 = .ok (.iload_n 3, 1) := by decide +kernel
theorem dX4_crosses_52 : decode cX4_crosses 52 = .ok (.iload 4, 2) := by decide +kernel
theorem dX4_crosses_54 : decode cX4_crosses 54 = .ok (.invokevirtual 84, 3) := by decide +kernel
theorem dX4_crosses_57 : decode cX4_crosses 57 = .ok (.ifCond .eq 5, 3) := by decide +kernel
theorem dX4_crosses_60 : decode cX4_crosses 60 = .ok (.iconst 1, 1) := by decide +kernel
theorem dX4_crosses_61 : decode cX4_crosses 61 = .ok (.ireturn, 1) := by decide +kernel
theorem dX4_crosses_62 : decode cX4_crosses 62 = .ok (.iinc 5 1, 3) := by decide +kernel
theorem dX4_crosses_65 : decode cX4_crosses 65 = .ok (.goto (-26), 3) := by decide +kernel
theorem dX4_crosses_68 : decode cX4_crosses 68 = .ok (.iconst 0, 1) := by decide +kernel
theorem dX4_crosses_69 : decode cX4_crosses 69 = .ok (.ireturn, 1) := by decide +kernel
set_option maxRecDepth 200000 in
theorem ggX4_joins_X4_stepCount : GoodIn wsX4_joins wsX4_stepCount := goodIn_r _ [5, 6, 7, 13, 14, 15, 16, 17, 18] rfl (by decide +kernel)
set_option maxRecDepth 200000 in
theorem gX4_joins_X4_stepCount : GoodIn wsX4_joins (wsV RX4 45 RX4 yX4_stepCount wsX4_stepCount) := goodIn_app (goodIn_of _ (by decide +kernel)) ggX4_joins_X4_stepCount
set_option maxRecDepth 200000 in
theorem ggX4_joins_X4_pointAt : GoodIn wsX4_joins wsX4_pointAt := goodIn_r _ [11, 6, 7, 12, 13, 14, 15, 16, 17, 18] rfl (by decide +kernel)
set_option maxRecDepth 200000 in
theorem gX4_joins_X4_pointAt : GoodIn wsX4_joins (wsV RX4 48 RX4 yX4_pointAt wsX4_pointAt) := goodIn_app (goodIn_of _ (by decide +kernel)) ggX4_joins_X4_pointAt
theorem dX4_joins_0 : decode cX4_joins 0 = .ok (.aload_n 0, 1) := by decide +kernel
theorem dX4_joins_1 : decode cX4_joins 1 = .ok (.iload_n 1, 1) := by decide +kernel
theorem dX4_joins_2 : decode cX4_joins 2 = .ok (.invokevirtual 45, 3) := by decide +kernel
theorem dX4_joins_5 : decode cX4_joins 5 = .ok (.istore 4, 2) := by decide +kernel
theorem dX4_joins_7 : decode cX4_joins 7 = .ok (.iconst 0, 1) := by decide +kernel
theorem dX4_joins_8 : decode cX4_joins 8 = .ok (.istore 5, 2) := by decide +kernel
theorem dX4_joins_10 : decode cX4_joins 10 = .ok (.iload 5, 2) := by decide +kernel
theorem dX4_joins_12 : decode cX4_joins 12 = .ok (.iload 4, 2) := by decide +kernel
theorem dX4_joins_14 : decode cX4_joins 14 = .ok (.if_icmp .ge 55, 3) := by decide +kernel
theorem dX4_joins_17 : decode cX4_joins 17 = .ok (.aload_n 0, 1) := by decide +kernel
theorem dX4_joins_18 : decode cX4_joins 18 = .ok (.iload_n 1, 1) := by decide +kernel
theorem dX4_joins_19 : decode cX4_joins 19 = .ok (.iload 5, 2) := by decide +kernel
theorem dX4_joins_21 : decode cX4_joins 21 = .ok (.invokevirtual 48, 3) := by decide +kernel
theorem dX4_joins_24 : decode cX4_joins 24 = .ok (.istore 6, 2) := by decide +kernel
theorem dX4_joins_26 : decode cX4_joins 26 = .ok (.aload_n 0, 1) := by decide +kernel
theorem dX4_joins_27 : decode cX4_joins 27 = .ok (.iload_n 1, 1) := by decide +kernel
theorem dX4_joins_28 : decode cX4_joins 28 = .ok (.iload 5, 2) := by decide +kernel
theorem dX4_joins_30 : decode cX4_joins 30 = .ok (.iconst 1, 1) := by decide +kernel
theorem dX4_joins_31 : decode cX4_joins 31 = .ok (.iadd, 1) := by decide +kernel
theorem dX4_joins_32 : decode cX4_joins 32 = .ok (.invokevirtual 48, 3) := by decide +kernel
theorem dX4_joins_35 : decode cX4_joins 35 = .ok (.istore 7, 2) := by decide +kernel
theorem dX4_joins_37 : decode cX4_joins 37 = .ok (.iload 6, 2) := by decide +kernel
theorem dX4_joins_39 : decode cX4_joins 39 = .ok (.iload_n 2, 1) := by decide +kernel
theorem dX4_joins_40 : decode cX4_joins 40 = .ok (.if_icmp .ne 9, 3) := by decide +kernel
theorem dX4_joins_43 : decode cX4_joins 43 = .ok (.iload 7, 2) := by decide +kernel
theorem dX4_joins_45 : decode cX4_joins 45 = .ok (.iload_n 3, 1) := by decide +kernel
theorem dX4_joins_46 : decode cX4_joins 46 = .ok (.if_icmp .eq 15, 3) := by decide +kernel
theorem dX4_joins_49 : decode cX4_joins 49 = .ok (.iload 6, 2) := by decide +kernel
theorem dX4_joins_51 : decode cX4_joins 51 = .ok (.iload_n 3, 1) := by decide +kernel
theorem dX4_joins_52 : decode cX4_joins 52 = .ok (.if_icmp .ne 11, 3) := by decide +kernel
theorem dX4_joins_55 : decode cX4_joins 55 = .ok (.iload 7, 2) := by decide +kernel
theorem dX4_joins_57 : decode cX4_joins 57 = .ok (.iload_n 2, 1) := by decide +kernel
theorem dX4_joins_58 : decode cX4_joins 58 = .ok (.if_icmp .ne 5, 3) := by decide +kernel
theorem dX4_joins_61 : decode cX4_joins 61 = .ok (.iconst 1, 1) := by decide +kernel
theorem dX4_joins_62 : decode cX4_joins 62 = .ok (.ireturn, 1) := by decide +kernel
theorem dX4_joins_63 : decode cX4_joins 63 = .ok (.iinc 5 1, 3) := by decide +kernel
theorem dX4_joins_66 : decode cX4_joins 66 = .ok (.goto (-56), 3) := by decide +kernel
theorem dX4_joins_69 : decode cX4_joins 69 = .ok (.iconst 0, 1) := by decide +kernel
theorem dX4_joins_70 : decode cX4_joins 70 = .ok (.ireturn, 1) := by decide +kernel
set_option maxRecDepth 200000 in
theorem ggX4_bendThere_X4_directionAt : GoodIn wsX4_bendThere wsX4_directionAt := goodIn_r _ [12, 13, 14, 15, 24, 25, 26, 27, 28, 29] rfl (by decide +kernel)
set_option maxRecDepth 200000 in
theorem gX4_bendThere_X4_directionAt : GoodIn wsX4_bendThere (wsV RX4 88 RX4 yX4_directionAt wsX4_directionAt) := goodIn_app (goodIn_of _ (by decide +kernel)) ggX4_bendThere_X4_directionAt
set_option maxRecDepth 200000 in
theorem ggX4_bendThere_X4_isRing : GoodIn wsX4_bendThere wsX4_isRing := goodIn_r _ [19, 13, 14, 15, 24, 25, 26, 27, 28, 29] rfl (by decide +kernel)
set_option maxRecDepth 200000 in
theorem gX4_bendThere_X4_isRing : GoodIn wsX4_bendThere (wsV RX4 66 RX4 yX4_isRing wsX4_isRing) := goodIn_app (goodIn_of _ (by decide +kernel)) ggX4_bendThere_X4_isRing
set_option maxRecDepth 200000 in
theorem ggX4_bendThere_X4_stepCount : GoodIn wsX4_bendThere wsX4_stepCount := goodIn_r _ [23, 13, 14, 24, 25, 26, 27, 28, 29] rfl (by decide +kernel)
set_option maxRecDepth 200000 in
theorem gX4_bendThere_X4_stepCount : GoodIn wsX4_bendThere (wsV RX4 45 RX4 yX4_stepCount wsX4_stepCount) := goodIn_app (goodIn_of _ (by decide +kernel)) ggX4_bendThere_X4_stepCount
theorem dX4_bendThere_0 : decode cX4_bendThere 0 = .ok (.aload_n 0, 1) := by decide +kernel
theorem dX4_bendThere_1 : decode cX4_bendThere 1 = .ok (.iload_n 1, 1) := by decide +kernel
theorem dX4_bendThere_2 : decode cX4_bendThere 2 = .ok (.iload_n 2, 1) := by decide +kernel
theorem dX4_bendThere_3 : decode cX4_bendThere 3 = .ok (.iconst 1, 1) := by decide +kernel
theorem dX4_bendThere_4 : decode cX4_bendThere 4 = .ok (.isub, 1) := by decide +kernel
theorem dX4_bendThere_5 : decode cX4_bendThere 5 = .ok (.invokevirtual 88, 3) := by decide +kernel
theorem dX4_bendThere_8 : decode cX4_bendThere 8 = .ok (.istore_n 3, 1) := by decide +kernel
theorem dX4_bendThere_9 : decode cX4_bendThere 9 = .ok (.aload_n 0, 1) := by decide +kernel
theorem dX4_bendThere_10 : decode cX4_bendThere 10 = .ok (.iload_n 1, 1) := by decide +kernel
theorem dX4_bendThere_11 : decode cX4_bendThere 11 = .ok (.iload_n 2, 1) := by decide +kernel
theorem dX4_bendThere_12 : decode cX4_bendThere 12 = .ok (.invokevirtual 88, 3) := by decide +kernel
theorem dX4_bendThere_15 : decode cX4_bendThere 15 = .ok (.istore 4, 2) := by decide +kernel
theorem dX4_bendThere_17 : decode cX4_bendThere 17 = .ok (.aload_n 0, 1) := by decide +kernel
theorem dX4_bendThere_18 : decode cX4_bendThere 18 = .ok (.iload_n 1, 1) := by decide +kernel
theorem dX4_bendThere_19 : decode cX4_bendThere 19 = .ok (.invokevirtual 66, 3) := by decide +kernel
theorem dX4_bendThere_22 : decode cX4_bendThere 22 = .ok (.ifCond .eq 41, 3) := by decide +kernel
theorem dX4_bendThere_25 : decode cX4_bendThere 25 = .ok (.aload_n 0, 1) := by decide +kernel
theorem dX4_bendThere_26 : decode cX4_bendThere 26 = .ok (.iload_n 1, 1) := by decide +kernel
theorem dX4_bendThere_27 : decode cX4_bendThere 27 = .ok (.invokevirtual 45, 3) := by decide +kernel
theorem dX4_bendThere_30 : decode cX4_bendThere 30 = .ok (.istore 5, 2) := by decide +kernel
theorem dX4_bendThere_32 : decode cX4_bendThere 32 = .ok (.iload_n 2, 1) := by decide +kernel
theorem dX4_bendThere_33 : decode cX4_bendThere 33 = .ok (.ifCond .ne 16, 3) := by decide +kernel
theorem dX4_bendThere_36 : decode cX4_bendThere 36 = .ok (.aload_n 0, 1) := by decide +kernel
theorem dX4_bendThere_37 : decode cX4_bendThere 37 = .ok (.iload_n 1, 1) := by decide +kernel
theorem dX4_bendThere_38 : decode cX4_bendThere 38 = .ok (.iload 5, 2) := by decide +kernel
theorem dX4_bendThere_40 : decode cX4_bendThere 40 = .ok (.iconst 1, 1) := by decide +kernel
theorem dX4_bendThere_41 : decode cX4_bendThere 41 = .ok (.isub, 1) := by decide +kernel
theorem dX4_bendThere_42 : decode cX4_bendThere 42 = .ok (.invokevirtual 88, 3) := by decide +kernel
theorem dX4_bendThere_45 : decode cX4_bendThere 45 = .ok (.istore_n 3, 1) := by decide +kernel
theorem dX4_bendThere_46 : decode cX4_bendThere 46 = .ok (.goto 17, 3) := by decide +kernel
theorem dX4_bendThere_49 : decode cX4_bendThere 49 = .ok (.iload_n 2, 1) := by decide +kernel
theorem dX4_bendThere_50 : decode cX4_bendThere 50 = .ok (.iload 5, 2) := by decide +kernel
theorem dX4_bendThere_52 : decode cX4_bendThere 52 = .ok (.if_icmp .ne 11, 3) := by decide +kernel
theorem dX4_bendThere_55 : decode cX4_bendThere 55 = .ok (.aload_n 0, 1) := by decide +kernel
theorem dX4_bendThere_56 : decode cX4_bendThere 56 = .ok (.iload_n 1, 1) := by decide +kernel
theorem dX4_bendThere_57 : decode cX4_bendThere 57 = .ok (.iconst 0, 1) := by decide +kernel
theorem dX4_bendThere_58 : decode cX4_bendThere 58 = .ok (.invokevirtual 88, 3) := by decide +kernel
theorem dX4_bendThere_61 : decode cX4_bendThere 61 = .ok (.istore 4, 2) := by decide +kernel
theorem dX4_bendThere_63 : decode cX4_bendThere 63 = .ok (.iload_n 3, 1) := by decide +kernel
theorem dX4_bendThere_64 : decode cX4_bendThere 64 = .ok (.iconst (-1), 1) := by decide +kernel
theorem dX4_bendThere_65 : decode cX4_bendThere 65 = .ok (.if_icmp .eq 9, 3) := by decide +kernel
theorem dX4_bendThere_68 : decode cX4_bendThere 68 = .ok (.iload 4, 2) := by decide +kernel
theorem dX4_bendThere_70 : decode cX4_bendThere 70 = .ok (.iconst (-1), 1) := by decide +kernel
theorem dX4_bendThere_71 : decode cX4_bendThere 71 = .ok (.if_icmp .ne 5, 3) := by decide +kernel
theorem dX4_bendThere_74 : decode cX4_bendThere 74 = .ok (.iconst 0, 1) := by decide +kernel
theorem dX4_bendThere_75 : decode cX4_bendThere 75 = .ok (.ireturn, 1) := by decide +kernel
theorem dX4_bendThere_76 : decode cX4_bendThere 76 = .ok (.iload 4, 2) := by decide +kernel
theorem dX4_bendThere_78 : decode cX4_bendThere 78 = .ok (.iload_n 3, 1) := by decide +kernel
theorem dX4_bendThere_79 : decode cX4_bendThere 79 = .ok (.isub, 1) := by decide +kernel
theorem dX4_bendThere_80 : decode cX4_bendThere 80 = .ok (.invokestatic 91, 3) := by decide +kernel
theorem dX4_bendThere_83 : decode cX4_bendThere 83 = .ok (.istore 5, 2) := by decide +kernel
theorem dX4_bendThere_85 : decode cX4_bendThere 85 = .ok (.iload 5, 2) := by decide +kernel
theorem dX4_bendThere_87 : decode cX4_bendThere 87 = .ok (.bipush 8, 2) := by decide +kernel
theorem dX4_bendThere_89 : decode cX4_bendThere 89 = .ok (.iload 5, 2) := by decide +kernel
theorem dX4_bendThere_91 : decode cX4_bendThere 91 = .ok (.isub, 1) := by decide +kernel
theorem dX4_bendThere_92 : decode cX4_bendThere 92 = .ok (.invokestatic 96, 3) := by decide +kernel
theorem dX4_bendThere_95 : decode cX4_bendThere 95 = .ok (.ireturn, 1) := by decide +kernel
set_option maxRecDepth 200000 in
theorem ggX4_lineOfRank_X4_countAhead : GoodIn wsX4_lineOfRank wsX4_countAhead := goodIn_r _ [6, 1, 7, 8, 9, 5, 10, 11, 12, 13, 14, 15, 16, 17] rfl (by decide +kernel)
set_option maxRecDepth 200000 in
theorem gX4_lineOfRank_X4_countAhead : GoodIn wsX4_lineOfRank (wsV RX4 99 RX4 yX4_countAhead wsX4_countAhead) := goodIn_app (goodIn_of _ (by decide +kernel)) ggX4_lineOfRank_X4_countAhead
theorem dX4_lineOfRank_0 : decode cX4_lineOfRank 0 = .ok (.iconst 0, 1) := by decide +kernel
theorem dX4_lineOfRank_1 : decode cX4_lineOfRank 1 = .ok (.istore_n 2, 1) := by decide +kernel
theorem dX4_lineOfRank_2 : decode cX4_lineOfRank 2 = .ok (.iload_n 2, 1) := by decide +kernel
theorem dX4_lineOfRank_3 : decode cX4_lineOfRank 3 = .ok (.aload_n 0, 1) := by decide +kernel
theorem dX4_lineOfRank_4 : decode cX4_lineOfRank 4 = .ok (.getfield 28, 3) := by decide +kernel
theorem dX4_lineOfRank_7 : decode cX4_lineOfRank 7 = .ok (.if_icmp .ge 20, 3) := by decide +kernel
theorem dX4_lineOfRank_10 : decode cX4_lineOfRank 10 = .ok (.aload_n 0, 1) := by decide +kernel
theorem dX4_lineOfRank_11 : decode cX4_lineOfRank 11 = .ok (.iload_n 2, 1) := by decide +kernel
theorem dX4_lineOfRank_12 : decode cX4_lineOfRank 12 = .ok (.invokevirtual 99, 3) := by decide +kernel
theorem dX4_lineOfRank_15 : decode cX4_lineOfRank 15 = .ok (.iload_n 1, 1) := by decide +kernel
theorem dX4_lineOfRank_16 : decode cX4_lineOfRank 16 = .ok (.if_icmp .ne 5, 3) := by decide +kernel
theorem dX4_lineOfRank_19 : decode cX4_lineOfRank 19 = .ok (.iload_n 2, 1) := by decide +kernel
theorem dX4_lineOfRank_20 : decode cX4_lineOfRank 20 = .ok (.ireturn, 1) := by decide +kernel
theorem dX4_lineOfRank_21 : decode cX4_lineOfRank 21 = .ok (.iinc 2 1, 3) := by decide +kernel
theorem dX4_lineOfRank_24 : decode cX4_lineOfRank 24 = .ok (.goto (-22), 3) := by decide +kernel
theorem dX4_lineOfRank_27 : decode cX4_lineOfRank 27 = .ok (.iconst (-1), 1) := by decide +kernel
theorem dX4_lineOfRank_28 : decode cX4_lineOfRank 28 = .ok (.ireturn, 1) := by decide +kernel
set_option maxRecDepth 200000 in
theorem ggX4_countAhead_X4_levelIn : GoodIn wsX4_countAhead wsX4_levelIn := goodIn_r _ [6, 1, 7, 8, 9, 10, 11, 12, 13] rfl (by decide +kernel)
set_option maxRecDepth 200000 in
theorem gX4_countAhead_X4_levelIn : GoodIn wsX4_countAhead (wsV RX4 102 RX4 yX4_levelIn wsX4_levelIn) := goodIn_app (goodIn_of _ (by decide +kernel)) ggX4_countAhead_X4_levelIn
theorem dX4_countAhead_0 : decode cX4_countAhead 0 = .ok (.aload_n 0, 1) := by decide +kernel
theorem dX4_countAhead_1 : decode cX4_countAhead 1 = .ok (.iload_n 1, 1) := by decide +kernel
theorem dX4_countAhead_2 : decode cX4_countAhead 2 = .ok (.invokevirtual 102, 3) := by decide +kernel
theorem dX4_countAhead_5 : decode cX4_countAhead 5 = .ok (.istore_n 2, 1) := by decide +kernel
theorem dX4_countAhead_6 : decode cX4_countAhead 6 = .ok (.iconst 0, 1) := by decide +kernel
theorem dX4_countAhead_7 : decode cX4_countAhead 7 = .ok (.istore_n 3, 1) := by decide +kernel
theorem dX4_countAhead_8 : decode cX4_countAhead 8 = .ok (.iconst 0, 1) := by decide +kernel
theorem dX4_countAhead_9 : decode cX4_countAhead 9 = .ok (.istore 4, 2) := by decide +kernel
theorem dX4_countAhead_11 : decode cX4_countAhead 11 = .ok (.iload 4, 2) := by decide +kernel
theorem dX4_countAhead_13 : decode cX4_countAhead 13 = .ok (.aload_n 0, 1) := by decide +kernel
theorem dX4_countAhead_14 : decode cX4_countAhead 14 = .ok (.getfield 28, 3) := by decide +kernel
theorem dX4_countAhead_17 : decode cX4_countAhead 17 = .ok (.if_icmp .ge 38, 3) := by decide +kernel
theorem dX4_countAhead_20 : decode cX4_countAhead 20 = .ok (.aload_n 0, 1) := by decide +kernel
theorem dX4_countAhead_21 : decode cX4_countAhead 21 = .ok (.iload 4, 2) := by decide +kernel
theorem dX4_countAhead_23 : decode cX4_countAhead 23 = .ok (.invokevirtual 102, 3) := by decide +kernel
theorem dX4_countAhead_26 : decode cX4_countAhead 26 = .ok (.istore 5, 2) := by decide +kernel
theorem dX4_countAhead_28 : decode cX4_countAhead 28 = .ok (.iload 5, 2) := by decide +kernel
theorem dX4_countAhead_30 : decode cX4_countAhead 30 = .ok (.iload_n 2, 1) := by decide +kernel
theorem dX4_countAhead_31 : decode cX4_countAhead 31 = .ok (.if_icmp .lt 15, 3) := by decide +kernel
theorem dX4_countAhead_34 : decode cX4_countAhead 34 = .ok (.iload 5, 2) := by decide +kernel
theorem dX4_countAhead_36 : decode cX4_countAhead 36 = .ok (.iload_n 2, 1) := by decide +kernel
theorem dX4_countAhead_37 : decode cX4_countAhead 37 = .ok (.if_icmp .ne 12, 3) := by decide +kernel
theorem dX4_countAhead_40 : decode cX4_countAhead 40 = .ok (.iload 4, 2) := by decide +kernel
theorem dX4_countAhead_42 : decode cX4_countAhead 42 = .ok (.iload_n 1, 1) := by decide +kernel
theorem dX4_countAhead_43 : decode cX4_countAhead 43 = .ok (.if_icmp .ge 6, 3) := by decide +kernel
theorem dX4_countAhead_46 : decode cX4_countAhead 46 = .ok (.iinc 3 1, 3) := by decide +kernel
theorem dX4_countAhead_49 : decode cX4_countAhead 49 = .ok (.iinc 4 1, 3) := by decide +kernel
theorem dX4_countAhead_52 : decode cX4_countAhead 52 = .ok (.goto (-41), 3) := by decide +kernel
theorem dX4_countAhead_55 : decode cX4_countAhead 55 = .ok (.iload_n 3, 1) := by decide +kernel
theorem dX4_countAhead_56 : decode cX4_countAhead 56 = .ok (.ireturn, 1) := by decide +kernel
set_option maxRecDepth 200000 in
theorem ggX5_goesRound_X4_isRing : GoodIn wsX5_goesRound wsX4_isRing := goodIn_r _ [5, 6, 7, 8, 32, 33, 34, 35, 36, 37] rfl (by decide +kernel)
set_option maxRecDepth 200000 in
theorem gX5_goesRound_X4_isRing : GoodIn wsX5_goesRound (wsV RX5 9 RX4 yX4_isRing wsX4_isRing) := goodIn_app (goodIn_of _ (by decide +kernel)) ggX5_goesRound_X4_isRing
set_option maxRecDepth 200000 in
theorem ggX5_goesRound_X4_isOn : GoodIn wsX5_goesRound wsX4_isOn := goodIn_r _ [12, 13, 14, 15, 4, 16, 6, 7, 17, 18, 19, 20, 8, 32, 33, 34, 35, 36, 37] rfl (by decide +kernel)
set_option maxRecDepth 200000 in
theorem gX5_goesRound_X4_isOn : GoodIn wsX5_goesRound (wsV RX5 15 RX4 yX4_isOn wsX4_isOn) := goodIn_app (goodIn_of _ (by decide +kernel)) ggX5_goesRound_X4_isOn
set_option maxRecDepth 200000 in
theorem ggX5_goesRound_X5_stepsToTheRight : GoodIn wsX5_goesRound wsX5_stepsToTheRight := goodIn_r _ [24, 25, 26, 27, 28, 29, 30, 14, 15, 4, 16, 6, 7, 31, 18, 19, 20, 8, 32, 33, 34, 35, 36, 37] rfl (by decide +kernel)
set_option maxRecDepth 200000 in
theorem gX5_goesRound_X5_stepsToTheRight : GoodIn wsX5_goesRound (va_wsS RX5 19 yX5_stepsToTheRight wsX5_stepsToTheRight) := goodIn_app (goodIn_of _ (by decide +kernel)) ggX5_goesRound_X5_stepsToTheRight
theorem dX5_goesRound_0 : decode cX5_goesRound 0 = .ok (.aload_n 0, 1) := by decide +kernel
theorem dX5_goesRound_1 : decode cX5_goesRound 1 = .ok (.iload_n 1, 1) := by decide +kernel
theorem dX5_goesRound_2 : decode cX5_goesRound 2 = .ok (.invokevirtual 9, 3) := by decide +kernel
theorem dX5_goesRound_5 : decode cX5_goesRound 5 = .ok (.ifCond .eq 12, 3) := by decide +kernel
theorem dX5_goesRound_8 : decode cX5_goesRound 8 = .ok (.aload_n 0, 1) := by decide +kernel
theorem dX5_goesRound_9 : decode cX5_goesRound 9 = .ok (.iload_n 1, 1) := by decide +kernel
theorem dX5_goesRound_10 : decode cX5_goesRound 10 = .ok (.iload_n 2, 1) := by decide +kernel
theorem dX5_goesRound_11 : decode cX5_goesRound 11 = .ok (.invokevirtual 15, 3) := by decide +kernel
theorem dX5_goesRound_14 : decode cX5_goesRound 14 = .ok (.ifCond .eq 5, 3) := by decide +kernel
theorem dX5_goesRound_17 : decode cX5_goesRound 17 = .ok (.iconst 0, 1) := by decide +kernel
theorem dX5_goesRound_18 : decode cX5_goesRound 18 = .ok (.ireturn, 1) := by decide +kernel
theorem dX5_goesRound_19 : decode cX5_goesRound 19 = .ok (.aload_n 0, 1) := by decide +kernel
theorem dX5_goesRound_20 : decode cX5_goesRound 20 = .ok (.iload_n 1, 1) := by decide +kernel
theorem dX5_goesRound_21 : decode cX5_goesRound 21 = .ok (.iload_n 2, 1) := by decide +kernel
theorem dX5_goesRound_22 : decode cX5_goesRound 22 = .ok (.invokestatic 19, 3) := by decide +kernel
theorem dX5_goesRound_25 : decode cX5_goesRound 25 = .ok (.iconst 1, 1) := by decide +kernel
theorem dX5_goesRound_26 : decode cX5_goesRound 26 = .ok (.iand, 1) := by decide +kernel
theorem dX5_goesRound_27 : decode cX5_goesRound 27 = .ok (.ifCond .eq 7, 3) := by decide +kernel
theorem dX5_goesRound_30 : decode cX5_goesRound 30 = .ok (.iconst 1, 1) := by decide +kernel
theorem dX5_goesRound_31 : decode cX5_goesRound 31 = .ok (.goto 4, 3) := by decide +kernel
theorem dX5_goesRound_34 : decode cX5_goesRound 34 = .ok (.iconst 0, 1) := by decide +kernel
theorem dX5_goesRound_35 : decode cX5_goesRound 35 = .ok (.ireturn, 1) := by decide +kernel
set_option maxRecDepth 200000 in
theorem ggX5_stepsToTheRight_X6_rowOf : GoodIn wsX5_stepsToTheRight wsX6_rowOf := goodIn_r _ [3] rfl (by decide +kernel)
set_option maxRecDepth 200000 in
theorem gX5_stepsToTheRight_X6_rowOf_n25 : GoodIn wsX5_stepsToTheRight (wsX6_rowOf) := ggX5_stepsToTheRight_X6_rowOf
set_option maxRecDepth 200000 in
theorem ggX5_stepsToTheRight_X6_columnOf : GoodIn wsX5_stepsToTheRight wsX6_columnOf := goodIn_r _ [5] rfl (by decide +kernel)
set_option maxRecDepth 200000 in
theorem gX5_stepsToTheRight_X6_columnOf_n29 : GoodIn wsX5_stepsToTheRight (wsX6_columnOf) := ggX5_stepsToTheRight_X6_columnOf
set_option maxRecDepth 200000 in
theorem ggX5_stepsToTheRight_X4_stepCount : GoodIn wsX5_stepsToTheRight wsX4_stepCount := goodIn_r _ [10, 11, 12, 18, 19, 20, 21, 22, 23] rfl (by decide +kernel)
set_option maxRecDepth 200000 in
theorem gX5_stepsToTheRight_X4_stepCount : GoodIn wsX5_stepsToTheRight (wsV RX5 32 RX4 yX4_stepCount wsX4_stepCount) := goodIn_app (goodIn_of _ (by decide +kernel)) ggX5_stepsToTheRight_X4_stepCount
set_option maxRecDepth 200000 in
theorem ggX5_stepsToTheRight_X4_pointAt : GoodIn wsX5_stepsToTheRight wsX4_pointAt := goodIn_r _ [16, 11, 12, 17, 18, 19, 20, 21, 22, 23] rfl (by decide +kernel)
set_option maxRecDepth 200000 in
theorem gX5_stepsToTheRight_X4_pointAt : GoodIn wsX5_stepsToTheRight (wsV RX5 35 RX4 yX4_pointAt wsX4_pointAt) := goodIn_app (goodIn_of _ (by decide +kernel)) ggX5_stepsToTheRight_X4_pointAt
theorem dX5_stepsToTheRight_0 : decode cX5_stepsToTheRight 0 = .ok (.iload_n 2, 1) := by decide +kernel
theorem dX5_stepsToTheRight_1 : decode cX5_stepsToTheRight 1 = .ok (.invokestatic 25, 3) := by decide +kernel
theorem dX5_stepsToTheRight_4 : decode cX5_stepsToTheRight 4 = .ok (.istore_n 3, 1) := by decide +kernel
theorem dX5_stepsToTheRight_5 : decode cX5_stepsToTheRight 5 = .ok (.iload_n 2, 1) := by decide +kernel
theorem dX5_stepsToTheRight_6 : decode cX5_stepsToTheRight 6 = .ok (.invokestatic 29, 3) := by decide +kernel
theorem dX5_stepsToTheRight_9 : decode cX5_stepsToTheRight 9 = .ok (.istore 4, 2) := by decide +kernel
theorem dX5_stepsToTheRight_11 : decode cX5_stepsToTheRight 11 = .ok (.aload_n 0, 1) := by decide +kernel
theorem dX5_stepsToTheRight_12 : decode cX5_stepsToTheRight 12 = .ok (.iload_n 1, 1) := by decide +kernel
theorem dX5_stepsToTheRight_13 : decode cX5_stepsToTheRight 13 = .ok (.invokevirtual 32, 3) := by decide +kernel
theorem dX5_stepsToTheRight_16 : decode cX5_stepsToTheRight 16 = .ok (.istore 5, 2) := by decide +kernel
theorem dX5_stepsToTheRight_18 : decode cX5_stepsToTheRight 18 = .ok (.iconst 0, 1) := by decide +kernel
theorem dX5_stepsToTheRight_19 : decode cX5_stepsToTheRight 19 = .ok (.istore 6, 2) := by decide +kernel
theorem dX5_stepsToTheRight_21 : decode cX5_stepsToTheRight 21 = .ok (.iconst 0, 1) := by decide +kernel
theorem dX5_stepsToTheRight_22 : decode cX5_stepsToTheRight 22 = .ok (.istore 7, 2) := by decide +kernel
theorem dX5_stepsToTheRight_24 : decode cX5_stepsToTheRight 24 = .ok (.iload 7, 2) := by decide +kernel
theorem dX5_stepsToTheRight_26 : decode cX5_stepsToTheRight 26 = .ok (.iload 5, 2) := by decide +kernel
theorem dX5_stepsToTheRight_28 : decode cX5_stepsToTheRight 28 = .ok (.if_icmp .ge 98, 3) := by decide +kernel
theorem dX5_stepsToTheRight_31 : decode cX5_stepsToTheRight 31 = .ok (.aload_n 0, 1) := by decide +kernel
theorem dX5_stepsToTheRight_32 : decode cX5_stepsToTheRight 32 = .ok (.iload_n 1, 1) := by decide +kernel
theorem dX5_stepsToTheRight_33 : decode cX5_stepsToTheRight 33 = .ok (.iload 7, 2) := by decide +kernel
theorem dX5_stepsToTheRight_35 : decode cX5_stepsToTheRight 35 = .ok (.invokevirtual 35, 3) := by decide +kernel
theorem dX5_stepsToTheRight_38 : decode cX5_stepsToTheRight 38 = .ok (.istore 8, 2) := by decide +kernel
theorem dX5_stepsToTheRight_40 : decode cX5_stepsToTheRight 40 = .ok (.aload_n 0, 1) := by decide +kernel
theorem dX5_stepsToTheRight_41 : decode cX5_stepsToTheRight 41 = .ok (.iload_n 1, 1) := by decide +kernel
theorem dX5_stepsToTheRight_42 : decode cX5_stepsToTheRight 42 = .ok (.iload 7, 2) := by decide +kernel
theorem dX5_stepsToTheRight_44 : decode cX5_stepsToTheRight 44 = .ok (.iconst 1, 1) := by decide +kernel
theorem dX5_stepsToTheRight_45 : decode cX5_stepsToTheRight 45 = .ok (.iadd, 1) := by decide +kernel
theorem dX5_stepsToTheRight_46 : decode cX5_stepsToTheRight 46 = .ok (.invokevirtual 35, 3) := by decide +kernel
theorem dX5_stepsToTheRight_49 : decode cX5_stepsToTheRight 49 = .ok (.istore 9, 2) := by decide +kernel
theorem dX5_stepsToTheRight_51 : decode cX5_stepsToTheRight 51 = .ok (.iload 8, 2) := by decide +kernel
theorem dX5_stepsToTheRight_53 : decode cX5_stepsToTheRight 53 = .ok (.invokestatic 25, 3) := by decide +kernel
theorem dX5_stepsToTheRight_56 : decode cX5_stepsToTheRight 56 = .ok (.iload 9, 2) := by decide +kernel
theorem dX5_stepsToTheRight_58 : decode cX5_stepsToTheRight 58 = .ok (.invokestatic 25, 3) := by decide +kernel
theorem dX5_stepsToTheRight_61 : decode cX5_stepsToTheRight 61 = .ok (.if_icmp .ge 8, 3) := by decide +kernel
theorem dX5_stepsToTheRight_64 : decode cX5_stepsToTheRight 64 = .ok (.iload 8, 2) := by decide +kernel
theorem dX5_stepsToTheRight_66 : decode cX5_stepsToTheRight 66 = .ok (.goto 5, 3) := by decide +kernel
theorem dX5_stepsToTheRight_69 : decode cX5_stepsToTheRight 69 = .ok (.iload 9, 2) := by decide +kernel
theorem dX5_stepsToTheRight_71 : decode cX5_stepsToTheRight 71 = .ok (.istore 10, 2) := by decide +kernel
theorem dX5_stepsToTheRight_73 : decode cX5_stepsToTheRight 73 = .ok (.iload 10, 2) := by decide +kernel
theorem dX5_stepsToTheRight_75 : decode cX5_stepsToTheRight 75 = .ok (.invokestatic 25, 3) := by decide +kernel
theorem dX5_stepsToTheRight_78 : decode cX5_stepsToTheRight 78 = .ok (.iload_n 3, 1) := by decide +kernel
theorem dX5_stepsToTheRight_79 : decode cX5_stepsToTheRight 79 = .ok (.if_icmp .ne 20, 3) := by decide +kernel
theorem dX5_stepsToTheRight_82 : decode cX5_stepsToTheRight 82 = .ok (.iload 8, 2) := by decide +kernel
theorem dX5_stepsToTheRight_84 : decode cX5_stepsToTheRight 84 = .ok (.invokestatic 25, 3) := by decide +kernel
theorem dX5_stepsToTheRight_87 : decode cX5_stepsToTheRight 87 = .ok (.iload 9, 2) := by decide +kernel
theorem dX5_stepsToTheRight_89 : decode cX5_stepsToTheRight 89 = .ok (.invokestatic 25, 3) := by decide +kernel
theorem dX5_stepsToTheRight_92 : decode cX5_stepsToTheRight 92 = .ok (.if_icmp .eq 7, 3) := by decide +kernel
theorem dX5_stepsToTheRight_95 : decode cX5_stepsToTheRight 95 = .ok (.iconst 1, 1) := by decide +kernel
theorem dX5_stepsToTheRight_96 : decode cX5_stepsToTheRight 96 = .ok (.goto 4, 3) := by decide +kernel
theorem dX5_stepsToTheRight_99 : decode cX5_stepsToTheRight 99 = .ok (.iconst 0, 1) := by decide +kernel
theorem dX5_stepsToTheRight_100 : decode cX5_stepsToTheRight 100 = .ok (.istore 11, 2) := by decide +kernel
theorem dX5_stepsToTheRight_102 : decode cX5_stepsToTheRight 102 = .ok (.iload 11, 2) := by decide +kernel
theorem dX5_stepsToTheRight_104 : decode cX5_stepsToTheRight 104 = .ok (.ifCond .eq 16, 3) := by decide +kernel
theorem dX5_stepsToTheRight_107 : decode cX5_stepsToTheRight 107 = .ok (.iload 10, 2) := by decide +kernel
theorem dX5_stepsToTheRight_109 : decode cX5_stepsToTheRight 109 = .ok (.invokestatic 29, 3) := by decide +kernel
theorem dX5_stepsToTheRight_112 : decode cX5_stepsToTheRight 112 = .ok (.iload 4, 2) := by decide +kernel
theorem dX5_stepsToTheRight_114 : decode cX5_stepsToTheRight 114 = .ok (.if_icmp .le 6, 3) := by decide +kernel
theorem dX5_stepsToTheRight_117 : decode cX5_stepsToTheRight 117 = .ok (.iinc 6 1, 3) := by decide +kernel
theorem dX5_stepsToTheRight_120 : decode cX5_stepsToTheRight 120 = .ok (.iinc 7 1, 3) := by decide +kernel
theorem dX5_stepsToTheRight_123 : decode cX5_stepsToTheRight 123 = .ok (.goto (-99), 3) := by decide +kernel
theorem dX5_stepsToTheRight_126 : decode cX5_stepsToTheRight 126 = .ok (.iload 6, 2) := by decide +kernel
theorem dX5_stepsToTheRight_128 : decode cX5_stepsToTheRight 128 = .ok (.ireturn, 1) := by decide +kernel
set_option maxRecDepth 200000 in
theorem ggX5_innermostRound_X4_pointAt : GoodIn wsX5_innermostRound wsX4_pointAt := goodIn_r _ [5, 6, 7, 8, 39, 40, 41, 42, 43, 44] rfl (by decide +kernel)
set_option maxRecDepth 200000 in
theorem gX5_innermostRound_X4_pointAt : GoodIn wsX5_innermostRound (wsV RX5 35 RX4 yX4_pointAt wsX4_pointAt) := goodIn_app (goodIn_of _ (by decide +kernel)) ggX5_innermostRound_X4_pointAt
set_option maxRecDepth 200000 in
theorem ggX5_innermostRound_X4_lineCount : GoodIn wsX5_innermostRound wsX4_lineCount := goodIn_r _ [12, 6, 39, 40, 41, 42, 43, 44] rfl (by decide +kernel)
set_option maxRecDepth 200000 in
theorem gX5_innermostRound_X4_lineCount : GoodIn wsX5_innermostRound (wsV RX5 39 RX4 yX4_lineCount wsX4_lineCount) := goodIn_app (goodIn_of _ (by decide +kernel)) ggX5_innermostRound_X4_lineCount
set_option maxRecDepth 200000 in
theorem ggX5_innermostRound_X5_goesRound : GoodIn wsX5_innermostRound wsX5_goesRound := goodIn_r _ [16, 17, 18, 19, 4, 20, 6, 7, 8, 21, 22, 23, 24, 25, 26, 27, 28, 29, 2, 3, 5, 30, 31, 15, 32, 33, 34, 35, 36, 37, 38, 1, 39, 40, 41, 42, 43, 44] rfl (by decide +kernel)
set_option maxRecDepth 200000 in
theorem gX5_innermostRound_X5_goesRound : GoodIn wsX5_innermostRound (va_wsS RX5 43 yX5_goesRound wsX5_goesRound) := goodIn_app (goodIn_of _ (by decide +kernel)) ggX5_innermostRound_X5_goesRound
theorem dX5_innermostRound_0 : decode cX5_innermostRound 0 = .ok (.aload_n 0, 1) := by decide +kernel
theorem dX5_innermostRound_1 : decode cX5_innermostRound 1 = .ok (.iload_n 1, 1) := by decide +kernel
theorem dX5_innermostRound_2 : decode cX5_innermostRound 2 = .ok (.iconst 0, 1) := by decide +kernel
theorem dX5_innermostRound_3 : decode cX5_innermostRound 3 = .ok (.invokevirtual 35, 3) := by decide +kernel
theorem dX5_innermostRound_6 : decode cX5_innermostRound 6 = .ok (.istore_n 2, 1) := by decide +kernel
theorem dX5_innermostRound_7 : decode cX5_innermostRound 7 = .ok (.iconst (-1), 1) := by decide +kernel
theorem dX5_innermostRound_8 : decode cX5_innermostRound 8 = .ok (.istore_n 3, 1) := by decide +kernel
theorem dX5_innermostRound_9 : decode cX5_innermostRound 9 = .ok (.iconst 0, 1) := by decide +kernel
theorem dX5_innermostRound_10 : decode cX5_innermostRound 10 = .ok (.istore 4, 2) := by decide +kernel
theorem dX5_innermostRound_12 : decode cX5_innermostRound 12 = .ok (.iload 4, 2) := by decide +kernel
theorem dX5_innermostRound_14 : decode cX5_innermostRound 14 = .ok (.aload_n 0, 1) := by decide +kernel
theorem dX5_innermostRound_15 : decode cX5_innermostRound 15 = .ok (.invokevirtual 39, 3) := by decide +kernel
theorem dX5_innermostRound_18 : decode cX5_innermostRound 18 = .ok (.if_icmp .ge 42, 3) := by decide +kernel
theorem dX5_innermostRound_21 : decode cX5_innermostRound 21 = .ok (.aload_n 0, 1) := by decide +kernel
theorem dX5_innermostRound_22 : decode cX5_innermostRound 22 = .ok (.iload 4, 2) := by decide +kernel
theorem dX5_innermostRound_24 : decode cX5_innermostRound 24 = .ok (.iload_n 2, 1) := by decide +kernel
theorem dX5_innermostRound_25 : decode cX5_innermostRound 25 = .ok (.invokestatic 43, 3) := by decide +kernel
theorem dX5_innermostRound_28 : decode cX5_innermostRound 28 = .ok (.ifCond .eq 26, 3) := by decide +kernel
theorem dX5_innermostRound_31 : decode cX5_innermostRound 31 = .ok (.iload_n 3, 1) := by decide +kernel
theorem dX5_innermostRound_32 : decode cX5_innermostRound 32 = .ok (.iconst (-1), 1) := by decide +kernel
theorem dX5_innermostRound_33 : decode cX5_innermostRound 33 = .ok (.if_icmp .eq 18, 3) := by decide +kernel
theorem dX5_innermostRound_36 : decode cX5_innermostRound 36 = .ok (.aload_n 0, 1) := by decide +kernel
theorem dX5_innermostRound_37 : decode cX5_innermostRound 37 = .ok (.iload_n 3, 1) := by decide +kernel
theorem dX5_innermostRound_38 : decode cX5_innermostRound 38 = .ok (.aload_n 0, 1) := by decide +kernel
theorem dX5_innermostRound_39 : decode cX5_innermostRound 39 = .ok (.iload 4, 2) := by decide +kernel
theorem dX5_innermostRound_41 : decode cX5_innermostRound 41 = .ok (.iconst 0, 1) := by decide +kernel
theorem dX5_innermostRound_42 : decode cX5_innermostRound 42 = .ok (.invokevirtual 35, 3) := by decide +kernel
theorem dX5_innermostRound_45 : decode cX5_innermostRound 45 = .ok (.invokestatic 43, 3) := by decide +kernel
theorem dX5_innermostRound_48 : decode cX5_innermostRound 48 = .ok (.ifCond .eq 6, 3) := by decide +kernel
theorem dX5_innermostRound_51 : decode cX5_innermostRound 51 = .ok (.iload 4, 2) := by decide +kernel
theorem dX5_innermostRound_53 : decode cX5_innermostRound 53 = .ok (.istore_n 3, 1) := by decide +kernel
theorem dX5_innermostRound_54 : decode cX5_innermostRound 54 = .ok (.iinc 4 1, 3) := by decide +kernel
theorem dX5_innermostRound_57 : decode cX5_innermostRound 57 = .ok (.goto (-45), 3) := by decide +kernel
theorem dX5_innermostRound_60 : decode cX5_innermostRound 60 = .ok (.iload_n 3, 1) := by decide +kernel
theorem dX5_innermostRound_61 : decode cX5_innermostRound 61 = .ok (.ireturn, 1) := by decide +kernel
set_option maxRecDepth 200000 in
theorem ggX6_init_X4_init : GoodIn wsX6_init wsX4_init := goodIn_r _ [22, 23, 2, 3, 24, 25, 26, 27, 28, 29, 49, 50, 51, 52, 53, 54] rfl (by decide +kernel)
set_option maxRecDepth 200000 in
theorem gX6_init_X4_init : GoodIn wsX6_init (wsX4_init) := ggX6_init_X4_init
set_option maxRecDepth 200000 in
theorem ggX6_init_X1_init : GoodIn wsX6_init wsX1_init := goodIn_r _ [32, 33, 2, 3, 34, 35, 5, 6, 36, 37, 21, 22, 23, 24, 25, 26, 27, 28, 29, 59, 60, 61, 62, 63, 49, 50, 51, 52, 53, 54] rfl (by decide +kernel)
set_option maxRecDepth 200000 in
theorem gX6_init_X1_init : GoodIn wsX6_init (wsX1_init) := ggX6_init_X1_init
set_option maxRecDepth 200000 in
theorem ggX6_init_X3_init : GoodIn wsX6_init wsX3_init := goodIn_r _ [40, 41, 2, 3, 25, 42, 64, 65, 66, 67, 68, 69, 70, 71] rfl (by decide +kernel)
set_option maxRecDepth 200000 in
theorem gX6_init_X3_init : GoodIn wsX6_init (wsX3_init) := ggX6_init_X3_init
set_option maxRecDepth 200000 in
theorem ggX6_init_X0_init : GoodIn wsX6_init wsX0_init := goodIn_r _ [45, 46, 2, 3, 25, 47, 48, 72, 73, 74] rfl (by decide +kernel)
set_option maxRecDepth 200000 in
theorem gX6_init_X0_init : GoodIn wsX6_init (wsX0_init) := ggX6_init_X0_init
theorem dX6_init_0 : decode cX6_init 0 = .ok (.aload_n 0, 1) := by decide +kernel
theorem dX6_init_1 : decode cX6_init 1 = .ok (.invokespecial 1, 3) := by decide +kernel
theorem dX6_init_4 : decode cX6_init 4 = .ok (.aload_n 0, 1) := by decide +kernel
theorem dX6_init_5 : decode cX6_init 5 = .ok (.new 7, 3) := by decide +kernel
theorem dX6_init_8 : decode cX6_init 8 = .ok (.dup, 1) := by decide +kernel
theorem dX6_init_9 : decode cX6_init 9 = .ok (.invokespecial 9, 3) := by decide +kernel
theorem dX6_init_12 : decode cX6_init 12 = .ok (.putfield 10, 3) := by decide +kernel
theorem dX6_init_15 : decode cX6_init 15 = .ok (.aload_n 0, 1) := by decide +kernel
theorem dX6_init_16 : decode cX6_init 16 = .ok (.new 16, 3) := by decide +kernel
theorem dX6_init_19 : decode cX6_init 19 = .ok (.dup, 1) := by decide +kernel
theorem dX6_init_20 : decode cX6_init 20 = .ok (.invokespecial 18, 3) := by decide +kernel
theorem dX6_init_23 : decode cX6_init 23 = .ok (.putfield 19, 3) := by decide +kernel
theorem dX6_init_26 : decode cX6_init 26 = .ok (.aload_n 0, 1) := by decide +kernel
theorem dX6_init_27 : decode cX6_init 27 = .ok (.new 23, 3) := by decide +kernel
theorem dX6_init_30 : decode cX6_init 30 = .ok (.dup, 1) := by decide +kernel
theorem dX6_init_31 : decode cX6_init 31 = .ok (.invokespecial 25, 3) := by decide +kernel
theorem dX6_init_34 : decode cX6_init 34 = .ok (.putfield 26, 3) := by decide +kernel
theorem dX6_init_37 : decode cX6_init 37 = .ok (.aload_n 0, 1) := by decide +kernel
theorem dX6_init_38 : decode cX6_init 38 = .ok (.new 30, 3) := by decide +kernel
theorem dX6_init_41 : decode cX6_init 41 = .ok (.dup, 1) := by decide +kernel
theorem dX6_init_42 : decode cX6_init 42 = .ok (.invokespecial 32, 3) := by decide +kernel
theorem dX6_init_45 : decode cX6_init 45 = .ok (.putfield 33, 3) := by decide +kernel
theorem dX6_init_48 : decode cX6_init 48 = .ok (.return_, 1) := by decide +kernel
set_option maxRecDepth 200000 in
theorem ggX6_begin_X6_requirePoint : GoodIn wsX6_begin wsX6_requirePoint := goodIn_ca (goodIn_r _ [8, 9, 10, 11, 12, 7, 13] rfl (by decide +kernel)) (goodIn_sub (fun _ h => List.mem_cons_of_mem _ (List.mem_append_left _ (List.mem_append_right _ h))) (by decide +kernel))
set_option maxRecDepth 200000 in
theorem gX6_begin_X6_requirePoint : GoodIn wsX6_begin (va_wsS RX6 37 yX6_requirePoint wsX6_requirePoint) := goodIn_app (goodIn_of _ (by decide +kernel)) ggX6_begin_X6_requirePoint
set_option maxRecDepth 200000 in
theorem ggX6_begin_X6_requireLevel : GoodIn wsX6_begin wsX6_requireLevel := goodIn_ca (goodIn_r _ [16, 17, 18] rfl (by decide +kernel)) (goodIn_sub (fun _ h => List.mem_cons_of_mem _ (List.mem_append_right _ h)) (by decide +kernel))
set_option maxRecDepth 200000 in
theorem gX6_begin_X6_requireLevel : GoodIn wsX6_begin (va_wsS RX6 41 yX6_requireLevel wsX6_requireLevel) := goodIn_app (goodIn_of _ (by decide +kernel)) ggX6_begin_X6_requireLevel
set_option maxRecDepth 200000 in
theorem ggX6_begin_X4_hasRoomAt : GoodIn wsX6_begin wsX4_hasRoomAt := goodIn_r _ [23, 24, 25, 26, 27, 22, 28, 29, 30, 31, 32, 33, 34, 35, 36, 37, 38, 39, 40, 41, 42, 77, 78, 79, 80, 81, 82] rfl (by decide +kernel)
set_option maxRecDepth 200000 in
theorem gX6_begin_X4_hasRoomAt : GoodIn wsX6_begin (wsV RX6 44 RX4 yX4_hasRoomAt wsX4_hasRoomAt) := goodIn_app (goodIn_of _ (by decide +kernel)) ggX6_begin_X4_hasRoomAt
set_option maxRecDepth 200000 in
theorem ggX6_begin_X1_save : GoodIn wsX6_begin wsX1_save := goodIn_r _ [47, 48, 49, 50, 51, 52, 46, 53, 54, 55, 56, 57, 58, 59, 60, 22, 61, 24, 62, 63, 64, 65, 66, 67, 37, 68, 42, 83, 84, 85, 86, 87, 77, 78, 79, 80, 81, 82] rfl (by decide +kernel)
set_option maxRecDepth 200000 in
theorem gX6_begin_X1_save : GoodIn wsX6_begin (wsV RX6 55 RX1 yX1_save wsX1_save) := goodIn_app (goodIn_of _ (by decide +kernel)) ggX6_begin_X1_save
set_option maxRecDepth 200000 in
theorem ggX6_begin_X4_addLine : GoodIn wsX6_begin wsX4_addLine := goodIn_r _ [72, 24, 63, 37, 68, 42, 77, 78, 79, 80, 81, 82] rfl (by decide +kernel)
set_option maxRecDepth 200000 in
theorem gX6_begin_X4_addLine : GoodIn wsX6_begin (wsV RX6 59 RX4 yX4_addLine wsX4_addLine) := goodIn_app (goodIn_of _ (by decide +kernel)) ggX6_begin_X4_addLine
theorem dX6_begin_0 : decode cX6_begin 0 = .ok (.iload_n 2, 1) := by decide +kernel
theorem dX6_begin_1 : decode cX6_begin 1 = .ok (.invokestatic 37, 3) := by decide +kernel
theorem dX6_begin_4 : decode cX6_begin 4 = .ok (.iload_n 1, 1) := by decide +kernel
theorem dX6_begin_5 : decode cX6_begin 5 = .ok (.invokestatic 41, 3) := by decide +kernel
theorem dX6_begin_8 : decode cX6_begin 8 = .ok (.aload_n 0, 1) := by decide +kernel
theorem dX6_begin_9 : decode cX6_begin 9 = .ok (.getfield 10, 3) := by decide +kernel
theorem dX6_begin_12 : decode cX6_begin 12 = .ok (.iload_n 2, 1) := by decide +kernel
theorem dX6_begin_13 : decode cX6_begin 13 = .ok (.invokevirtual 44, 3) := by decide +kernel
theorem dX6_begin_16 : decode cX6_begin 16 = .ok (.ifCond .ne 13, 3) := by decide +kernel
theorem dX6_begin_19 : decode cX6_begin 19 = .ok (.new 48, 3) := by decide +kernel
theorem dX6_begin_22 : decode cX6_begin 22 = .ok (.dup, 1) := by decide +kernel
theorem dX6_begin_23 : decode cX6_begin 23 = .ok (.ldc 50, 2) := by decide +kernel
theorem dX6_begin_25 : decode cX6_begin 25 = .ok (.invokespecial 52, 3) := by decide +kernel
theorem dX6_begin_28 : decode cX6_begin 28 = .ok (.athrow, 1) := by decide +kernel
theorem dX6_begin_29 : decode cX6_begin 29 = .ok (.aload_n 0, 1) := by decide +kernel
theorem dX6_begin_30 : decode cX6_begin 30 = .ok (.getfield 19, 3) := by decide +kernel
theorem dX6_begin_33 : decode cX6_begin 33 = .ok (.aload_n 0, 1) := by decide +kernel
theorem dX6_begin_34 : decode cX6_begin 34 = .ok (.getfield 10, 3) := by decide +kernel
theorem dX6_begin_37 : decode cX6_begin 37 = .ok (.invokevirtual 55, 3) := by decide +kernel
theorem dX6_begin_40 : decode cX6_begin 40 = .ok (.aload_n 0, 1) := by decide +kernel
theorem dX6_begin_41 : decode cX6_begin 41 = .ok (.getfield 10, 3) := by decide +kernel
theorem dX6_begin_44 : decode cX6_begin 44 = .ok (.iload_n 1, 1) := by decide +kernel
theorem dX6_begin_45 : decode cX6_begin 45 = .ok (.iload_n 2, 1) := by decide +kernel
theorem dX6_begin_46 : decode cX6_begin 46 = .ok (.invokevirtual 59, 3) := by decide +kernel
theorem dX6_begin_49 : decode cX6_begin 49 = .ok (.ireturn, 1) := by decide +kernel
set_option maxRecDepth 200000 in
theorem ggX6_step_X6_requireLine : GoodIn wsX6_step wsX6_requireLine := goodIn_ca (goodIn_r _ [9, 10, 11, 3, 12, 13, 14, 15, 16, 17, 106, 107, 108, 109, 110, 111, 112, 113, 114, 115] rfl (by decide +kernel)) (goodIn_sub (fun _ h => List.mem_cons_of_mem _ (List.mem_append_left _ (List.mem_append_right _ h))) (by decide +kernel))
set_option maxRecDepth 200000 in
theorem gX6_step_X6_requireLine : GoodIn wsX6_step (wsV RX6 63 RX6 yX6_requireLine wsX6_requireLine) := goodIn_app (goodIn_of _ (by decide +kernel)) ggX6_step_X6_requireLine
set_option maxRecDepth 200000 in
theorem ggX6_step_X6_requireDirection : GoodIn wsX6_step wsX6_requireDirection := goodIn_ca (goodIn_r _ [20, 21, 22, 23, 24, 8, 25] rfl (by decide +kernel)) (goodIn_sub (fun _ h => List.mem_cons_of_mem _ (List.mem_append_right _ h)) (by decide +kernel))
set_option maxRecDepth 200000 in
theorem gX6_step_X6_requireDirection : GoodIn wsX6_step (va_wsS RX6 66 yX6_requireDirection wsX6_requireDirection) := goodIn_app (goodIn_of _ (by decide +kernel)) ggX6_step_X6_requireDirection
set_option maxRecDepth 200000 in
theorem ggX6_step_X4_reasonAgainstStep : GoodIn wsX6_step wsX4_reasonAgainstStep := goodIn_r _ [29, 30, 31, 32, 15, 33, 17, 34, 35, 36, 37, 38, 39, 40, 41, 42, 43, 44, 8, 45, 46, 47, 48, 49, 50, 23, 24, 25, 51, 52, 53, 54, 55, 56, 57, 58, 59, 60, 61, 62, 63, 64, 65, 66, 67, 68, 69, 70, 71, 72, 73, 74, 110, 111, 112, 113, 114, 115] rfl (by decide +kernel)
set_option maxRecDepth 200000 in
theorem gX6_step_X4_reasonAgainstStep : GoodIn wsX6_step (wsV RX6 69 RX4 yX4_reasonAgainstStep wsX4_reasonAgainstStep) := goodIn_app (goodIn_of _ (by decide +kernel)) ggX6_step_X4_reasonAgainstStep
set_option maxRecDepth 200000 in
theorem ggX6_step_X1_save : GoodIn wsX6_step wsX1_save := goodIn_r _ [79, 80, 81, 82, 83, 84, 78, 85, 86, 87, 88, 89, 90, 91, 92, 15, 93, 17, 94, 95, 96, 97, 98, 99, 34, 100, 35, 116, 117, 118, 119, 120, 110, 111, 112, 113, 114, 115] rfl (by decide +kernel)
set_option maxRecDepth 200000 in
theorem gX6_step_X1_save : GoodIn wsX6_step (wsV RX6 55 RX1 yX1_save wsX1_save) := goodIn_app (goodIn_of _ (by decide +kernel)) ggX6_step_X1_save
