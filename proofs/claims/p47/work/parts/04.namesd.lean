theorem dX6_isSteady_9 : decode cX6_isSteady 9 = .ok (.iload_n 1, 1) := by decide +kernel
theorem dX6_isSteady_10 : decode cX6_isSteady 10 = .ok (.invokestatic 194, 3) := by decide +kernel
theorem dX6_isSteady_13 : decode cX6_isSteady 13 = .ok (.istore_n 2, 1) := by decide +kernel
theorem dX6_isSteady_14 : decode cX6_isSteady 14 = .ok (.iload_n 2, 1) := by decide +kernel
theorem dX6_isSteady_15 : decode cX6_isSteady 15 = .ok (.iconst (-1), 1) := by decide +kernel
theorem dX6_isSteady_16 : decode cX6_isSteady 16 = .ok (.if_icmp .ne 5, 3) := by decide +kernel
theorem dX6_isSteady_19 : decode cX6_isSteady 19 = .ok (.iconst 1, 1) := by decide +kernel
theorem dX6_isSteady_20 : decode cX6_isSteady 20 = .ok (.ireturn, 1) := by decide +kernel
theorem dX6_isSteady_21 : decode cX6_isSteady 21 = .ok (.aload_n 0, 1) := by decide +kernel
theorem dX6_isSteady_22 : decode cX6_isSteady 22 = .ok (.getfield 10, 3) := by decide +kernel
theorem dX6_isSteady_25 : decode cX6_isSteady 25 = .ok (.iload_n 1, 1) := by decide +kernel
theorem dX6_isSteady_26 : decode cX6_isSteady 26 = .ok (.invokevirtual 88, 3) := by decide +kernel
theorem dX6_isSteady_29 : decode cX6_isSteady 29 = .ok (.aload_n 0, 1) := by decide +kernel
theorem dX6_isSteady_30 : decode cX6_isSteady 30 = .ok (.getfield 10, 3) := by decide +kernel
theorem dX6_isSteady_33 : decode cX6_isSteady 33 = .ok (.iload_n 2, 1) := by decide +kernel
theorem dX6_isSteady_34 : decode cX6_isSteady 34 = .ok (.invokevirtual 88, 3) := by decide +kernel
theorem dX6_isSteady_37 : decode cX6_isSteady 37 = .ok (.isub, 1) := by decide +kernel
theorem dX6_isSteady_38 : decode cX6_isSteady 38 = .ok (.invokestatic 197, 3) := by decide +kernel
theorem dX6_isSteady_41 : decode cX6_isSteady 41 = .ok (.iconst 5, 1) := by decide +kernel
theorem dX6_isSteady_42 : decode cX6_isSteady 42 = .ok (.if_icmp .ne 7, 3) := by decide +kernel
theorem dX6_isSteady_45 : decode cX6_isSteady 45 = .ok (.iconst 1, 1) := by decide +kernel
theorem dX6_isSteady_46 : decode cX6_isSteady 46 = .ok (.goto 4, 3) := by decide +kernel
theorem dX6_isSteady_49 : decode cX6_isSteady 49 = .ok (.iconst 0, 1) := by decide +kernel
theorem dX6_isSteady_50 : decode cX6_isSteady 50 = .ok (.ireturn, 1) := by decide +kernel
set_option maxRecDepth 200000 in
theorem ggX6_lineByLevel_X4_hasLine : GoodIn wsX6_lineByLevel wsX4_hasLine := goodIn_r _ [8, 9, 27, 28, 29, 30, 31, 32] rfl (by decide +kernel)
set_option maxRecDepth 200000 in
theorem gX6_lineByLevel_X4_hasLine : GoodIn wsX6_lineByLevel (wsV RX6 202 RX4 yX4_hasLine wsX4_hasLine) := goodIn_app (goodIn_of _ (by decide +kernel)) ggX6_lineByLevel_X4_hasLine
set_option maxRecDepth 200000 in
theorem ggX6_lineByLevel_X4_lineOfRank : GoodIn wsX6_lineByLevel wsX4_lineOfRank := goodIn_r _ [13, 9, 14, 15, 16, 7, 17, 18, 19, 20, 21, 22, 27, 28, 29, 30, 31, 32] rfl (by decide +kernel)
set_option maxRecDepth 200000 in
theorem gX6_lineByLevel_X4_lineOfRank : GoodIn wsX6_lineByLevel (wsV RX6 210 RX4 yX4_lineOfRank wsX4_lineOfRank) := goodIn_app (goodIn_of _ (by decide +kernel)) ggX6_lineByLevel_X4_lineOfRank
theorem dX6_lineByLevel_0 : decode cX6_lineByLevel 0 = .ok (.aload_n 0, 1) := by decide +kernel
theorem dX6_lineByLevel_1 : decode cX6_lineByLevel 1 = .ok (.getfield 10, 3) := by decide +kernel
theorem dX6_lineByLevel_4 : decode cX6_lineByLevel 4 = .ok (.iload_n 1, 1) := by decide +kernel
theorem dX6_lineByLevel_5 : decode cX6_lineByLevel 5 = .ok (.invokevirtual 202, 3) := by decide +kernel
theorem dX6_lineByLevel_8 : decode cX6_lineByLevel 8 = .ok (.ifCond .ne 13, 3) := by decide +kernel
theorem dX6_lineByLevel_11 : decode cX6_lineByLevel 11 = .ok (.new 205, 3) := by decide +kernel
theorem dX6_lineByLevel_14 : decode cX6_lineByLevel 14 = .ok (.dup, 1) := by decide +kernel
theorem dX6_lineByLevel_15 : decode cX6_lineByLevel 15 = .ok (.ldc 207, 2) := by decide +kernel
theorem dX6_lineByLevel_17 : decode cX6_lineByLevel 17 = .ok (.invokespecial 209, 3) := by decide +kernel
theorem dX6_lineByLevel_20 : decode cX6_lineByLevel 20 = .ok (.athrow, 1) := by decide +kernel
theorem dX6_lineByLevel_21 : decode cX6_lineByLevel 21 = .ok (.aload_n 0, 1) := by decide +kernel
theorem dX6_lineByLevel_22 : decode cX6_lineByLevel 22 = .ok (.getfield 10, 3) := by decide +kernel
theorem dX6_lineByLevel_25 : decode cX6_lineByLevel 25 = .ok (.iload_n 1, 1) := by decide +kernel
theorem dX6_lineByLevel_26 : decode cX6_lineByLevel 26 = .ok (.invokevirtual 210, 3) := by decide +kernel
theorem dX6_lineByLevel_29 : decode cX6_lineByLevel 29 = .ok (.ireturn, 1) := by decide +kernel
set_option maxRecDepth 200000 in
theorem ggX6_requireLine_X4_hasLine : GoodIn wsX6_requireLine wsX4_hasLine := goodIn_r _ [8, 9, 14, 15, 16, 17, 18, 19] rfl (by decide +kernel)
set_option maxRecDepth 200000 in
theorem gX6_requireLine_X4_hasLine : GoodIn wsX6_requireLine (wsV RX6 202 RX4 yX4_hasLine wsX4_hasLine) := goodIn_app (goodIn_of _ (by decide +kernel)) ggX6_requireLine_X4_hasLine
theorem dX6_requireLine_0 : decode cX6_requireLine 0 = .ok (.aload_n 0, 1) := by decide +kernel
theorem dX6_requireLine_1 : decode cX6_requireLine 1 = .ok (.getfield 10, 3) := by decide +kernel
theorem dX6_requireLine_4 : decode cX6_requireLine 4 = .ok (.iload_n 1, 1) := by decide +kernel
theorem dX6_requireLine_5 : decode cX6_requireLine 5 = .ok (.invokevirtual 202, 3) := by decide +kernel
theorem dX6_requireLine_8 : decode cX6_requireLine 8 = .ok (.ifCond .ne 14, 3) := by decide +kernel
theorem dX6_requireLine_11 : decode cX6_requireLine 11 = .ok (.new 205, 3) := by decide +kernel
theorem dX6_requireLine_14 : decode cX6_requireLine 14 = .ok (.dup, 1) := by decide +kernel
theorem dX6_requireLine_15 : decode cX6_requireLine 15 = .ok (.ldc_w 297, 3) := by decide +kernel
theorem dX6_requireLine_18 : decode cX6_requireLine 18 = .ok (.invokespecial 209, 3) := by decide +kernel
theorem dX6_requireLine_21 : decode cX6_requireLine 21 = .ok (.athrow, 1) := by decide +kernel
theorem dX6_requireLine_22 : decode cX6_requireLine 22 = .ok (.return_, 1) := by decide +kernel
set_option maxRecDepth 200000 in
theorem ggX6_requireNumber_X4_hasNumber : GoodIn wsX6_requireNumber wsX4_hasNumber := goodIn_r _ [8, 9, 10, 15, 16, 17, 18, 19, 20] rfl (by decide +kernel)
set_option maxRecDepth 200000 in
theorem gX6_requireNumber_X4_hasNumber : GoodIn wsX6_requireNumber (wsV RX6 294 RX4 yX4_hasNumber wsX4_hasNumber) := goodIn_app (goodIn_of _ (by decide +kernel)) ggX6_requireNumber_X4_hasNumber
theorem dX6_requireNumber_0 : decode cX6_requireNumber 0 = .ok (.aload_n 0, 1) := by decide +kernel
theorem dX6_requireNumber_1 : decode cX6_requireNumber 1 = .ok (.getfield 10, 3) := by decide +kernel
theorem dX6_requireNumber_4 : decode cX6_requireNumber 4 = .ok (.iload_n 1, 1) := by decide +kernel
theorem dX6_requireNumber_5 : decode cX6_requireNumber 5 = .ok (.iload_n 2, 1) := by decide +kernel
theorem dX6_requireNumber_6 : decode cX6_requireNumber 6 = .ok (.invokevirtual 294, 3) := by decide +kernel
theorem dX6_requireNumber_9 : decode cX6_requireNumber 9 = .ok (.ifCond .ne 14, 3) := by decide +kernel
theorem dX6_requireNumber_12 : decode cX6_requireNumber 12 = .ok (.new 205, 3) := by decide +kernel
theorem dX6_requireNumber_15 : decode cX6_requireNumber 15 = .ok (.dup, 1) := by decide +kernel
theorem dX6_requireNumber_16 : decode cX6_requireNumber 16 = .ok (.ldc_w 299, 3) := by decide +kernel
theorem dX6_requireNumber_19 : decode cX6_requireNumber 19 = .ok (.invokespecial 209, 3) := by decide +kernel
theorem dX6_requireNumber_22 : decode cX6_requireNumber 22 = .ok (.athrow, 1) := by decide +kernel
theorem dX6_requireNumber_23 : decode cX6_requireNumber 23 = .ok (.return_, 1) := by decide +kernel
set_option maxRecDepth 200000 in
theorem ggX6_requirePoint_X6_isOnMap : GoodIn wsX6_requirePoint wsX6_isOnMap := goodIn_r _ [6] rfl (by decide +kernel)
set_option maxRecDepth 200000 in
theorem gX6_requirePoint_X6_isOnMap : GoodIn wsX6_requirePoint (va_wsS RX6 301 yX6_isOnMap wsX6_isOnMap) := goodIn_app (goodIn_of _ (by decide +kernel)) ggX6_requirePoint_X6_isOnMap
theorem dX6_requirePoint_0 : decode cX6_requirePoint 0 = .ok (.iload_n 0, 1) := by decide +kernel
theorem dX6_requirePoint_1 : decode cX6_requirePoint 1 = .ok (.invokestatic 301, 3) := by decide +kernel
theorem dX6_requirePoint_4 : decode cX6_requirePoint 4 = .ok (.ifCond .ne 14, 3) := by decide +kernel
theorem dX6_requirePoint_7 : decode cX6_requirePoint 7 = .ok (.new 205, 3) := by decide +kernel
theorem dX6_requirePoint_10 : decode cX6_requirePoint 10 = .ok (.dup, 1) := by decide +kernel
theorem dX6_requirePoint_11 : decode cX6_requirePoint 11 = .ok (.ldc_w 304, 3) := by decide +kernel
theorem dX6_requirePoint_14 : decode cX6_requirePoint 14 = .ok (.invokespecial 209, 3) := by decide +kernel
theorem dX6_requirePoint_17 : decode cX6_requirePoint 17 = .ok (.athrow, 1) := by decide +kernel
theorem dX6_requirePoint_18 : decode cX6_requirePoint 18 = .ok (.return_, 1) := by decide +kernel
theorem dX6_requireLevel_0 : decode cX6_requireLevel 0 = .ok (.iload_n 0, 1) := by decide +kernel
theorem dX6_requireLevel_1 : decode cX6_requireLevel 1 = .ok (.ifCond .lt 9, 3) := by decide +kernel
theorem dX6_requireLevel_4 : decode cX6_requireLevel 4 = .ok (.iload_n 0, 1) := by decide +kernel
theorem dX6_requireLevel_5 : decode cX6_requireLevel 5 = .ok (.bipush 99, 2) := by decide +kernel
theorem dX6_requireLevel_7 : decode cX6_requireLevel 7 = .ok (.if_icmp .le 14, 3) := by decide +kernel
theorem dX6_requireLevel_10 : decode cX6_requireLevel 10 = .ok (.new 129, 3) := by decide +kernel
theorem dX6_requireLevel_13 : decode cX6_requireLevel 13 = .ok (.dup, 1) := by decide +kernel
theorem dX6_requireLevel_14 : decode cX6_requireLevel 14 = .ok (.ldc_w 306, 3) := by decide +kernel
theorem dX6_requireLevel_17 : decode cX6_requireLevel 17 = .ok (.invokespecial 133, 3) := by decide +kernel
theorem dX6_requireLevel_20 : decode cX6_requireLevel 20 = .ok (.athrow, 1) := by decide +kernel
theorem dX6_requireLevel_21 : decode cX6_requireLevel 21 = .ok (.return_, 1) := by decide +kernel
set_option maxRecDepth 200000 in
theorem ggX6_requireDirection_X6_isDirection : GoodIn wsX6_requireDirection wsX6_isDirection := goodIn_r _ [6] rfl (by decide +kernel)
set_option maxRecDepth 200000 in
theorem gX6_requireDirection_X6_isDirection : GoodIn wsX6_requireDirection (va_wsS RX6 308 yX6_isDirection wsX6_isDirection) := goodIn_app (goodIn_of _ (by decide +kernel)) ggX6_requireDirection_X6_isDirection
theorem dX6_requireDirection_0 : decode cX6_requireDirection 0 = .ok (.iload_n 0, 1) := by decide +kernel
theorem dX6_requireDirection_1 : decode cX6_requireDirection 1 = .ok (.invokestatic 308, 3) := by decide +kernel
theorem dX6_requireDirection_4 : decode cX6_requireDirection 4 = .ok (.ifCond .ne 14, 3) := by decide +kernel
theorem dX6_requireDirection_7 : decode cX6_requireDirection 7 = .ok (.new 129, 3) := by decide +kernel
theorem dX6_requireDirection_10 : decode cX6_requireDirection 10 = .ok (.dup, 1) := by decide +kernel
theorem dX6_requireDirection_11 : decode cX6_requireDirection 11 = .ok (.ldc_w 311, 3) := by decide +kernel
theorem dX6_requireDirection_14 : decode cX6_requireDirection 14 = .ok (.invokespecial 133, 3) := by decide +kernel
theorem dX6_requireDirection_17 : decode cX6_requireDirection 17 = .ok (.athrow, 1) := by decide +kernel
theorem dX6_requireDirection_18 : decode cX6_requireDirection 18 = .ok (.return_, 1) := by decide +kernel
theorem dX6_isOnMap_0 : decode cX6_isOnMap 0 = .ok (.iload_n 0, 1) := by decide +kernel
theorem dX6_isOnMap_1 : decode cX6_isOnMap 1 = .ok (.ifCond .lt 14, 3) := by decide +kernel
theorem dX6_isOnMap_4 : decode cX6_isOnMap 4 = .ok (.iload_n 0, 1) := by decide +kernel
theorem dX6_isOnMap_5 : decode cX6_isOnMap 5 = .ok (.sipush 384, 3) := by decide +kernel
theorem dX6_isOnMap_8 : decode cX6_isOnMap 8 = .ok (.if_icmp .ge 7, 3) := by decide +kernel
theorem dX6_isOnMap_11 : decode cX6_isOnMap 11 = .ok (.iconst 1, 1) := by decide +kernel
theorem dX6_isOnMap_12 : decode cX6_isOnMap 12 = .ok (.goto 4, 3) := by decide +kernel
theorem dX6_isOnMap_15 : decode cX6_isOnMap 15 = .ok (.iconst 0, 1) := by decide +kernel
theorem dX6_isOnMap_16 : decode cX6_isOnMap 16 = .ok (.ireturn, 1) := by decide +kernel
theorem dX6_isDirection_0 : decode cX6_isDirection 0 = .ok (.iload_n 0, 1) := by decide +kernel
theorem dX6_isDirection_1 : decode cX6_isDirection 1 = .ok (.ifCond .lt 13, 3) := by decide +kernel
theorem dX6_isDirection_4 : decode cX6_isDirection 4 = .ok (.iload_n 0, 1) := by decide +kernel
theorem dX6_isDirection_5 : decode cX6_isDirection 5 = .ok (.bipush 8, 2) := by decide +kernel
theorem dX6_isDirection_7 : decode cX6_isDirection 7 = .ok (.if_icmp .ge 7, 3) := by decide +kernel
theorem dX6_isDirection_10 : decode cX6_isDirection 10 = .ok (.iconst 1, 1) := by decide +kernel
theorem dX6_isDirection_11 : decode cX6_isDirection 11 = .ok (.goto 4, 3) := by decide +kernel
theorem dX6_isDirection_14 : decode cX6_isDirection 14 = .ok (.iconst 0, 1) := by decide +kernel
theorem dX6_isDirection_15 : decode cX6_isDirection 15 = .ok (.ireturn, 1) := by decide +kernel
theorem dX6_isSlanting_0 : decode cX6_isSlanting 0 = .ok (.iload_n 0, 1) := by decide +kernel
theorem dX6_isSlanting_1 : decode cX6_isSlanting 1 = .ok (.iconst 1, 1) := by decide +kernel
theorem dX6_isSlanting_2 : decode cX6_isSlanting 2 = .ok (.iand, 1) := by decide +kernel
theorem dX6_isSlanting_3 : decode cX6_isSlanting 3 = .ok (.ifCond .eq 7, 3) := by decide +kernel
theorem dX6_isSlanting_6 : decode cX6_isSlanting 6 = .ok (.iconst 1, 1) := by decide +kernel
theorem dX6_isSlanting_7 : decode cX6_isSlanting 7 = .ok (.goto 4, 3) := by decide +kernel
theorem dX6_isSlanting_10 : decode cX6_isSlanting 10 = .ok (.iconst 0, 1) := by decide +kernel
theorem dX6_isSlanting_11 : decode cX6_isSlanting 11 = .ok (.ireturn, 1) := by decide +kernel
theorem dX6_columnOf_0 : decode cX6_columnOf 0 = .ok (.iload_n 0, 1) := by decide +kernel
theorem dX6_columnOf_1 : decode cX6_columnOf 1 = .ok (.bipush 24, 2) := by decide +kernel
theorem dX6_columnOf_3 : decode cX6_columnOf 3 = .ok (.irem, 1) := by decide +kernel
theorem dX6_columnOf_4 : decode cX6_columnOf 4 = .ok (.ireturn, 1) := by decide +kernel
theorem dX6_rowOf_0 : decode cX6_rowOf 0 = .ok (.iload_n 0, 1) := by decide +kernel
theorem dX6_rowOf_1 : decode cX6_rowOf 1 = .ok (.bipush 24, 2) := by decide +kernel
theorem dX6_rowOf_3 : decode cX6_rowOf 3 = .ok (.idiv, 1) := by decide +kernel
theorem dX6_rowOf_4 : decode cX6_rowOf 4 = .ok (.ireturn, 1) := by decide +kernel
set_option maxRecDepth 200000 in
theorem ggX6_pointBeside_X6_isOnMap : GoodIn wsX6_pointBeside wsX6_isOnMap := goodIn_r _ [6] rfl (by decide +kernel)
set_option maxRecDepth 200000 in
theorem gX6_pointBeside_X6_isOnMap : GoodIn wsX6_pointBeside (va_wsS RX6 301 yX6_isOnMap wsX6_isOnMap) := goodIn_app (goodIn_of _ (by decide +kernel)) ggX6_pointBeside_X6_isOnMap
set_option maxRecDepth 200000 in
theorem ggX6_pointBeside_X6_isDirection : GoodIn wsX6_pointBeside wsX6_isDirection := goodIn_r _ [9] rfl (by decide +kernel)
set_option maxRecDepth 200000 in
theorem gX6_pointBeside_X6_isDirection : GoodIn wsX6_pointBeside (va_wsS RX6 308 yX6_isDirection wsX6_isDirection) := goodIn_app (goodIn_of _ (by decide +kernel)) ggX6_pointBeside_X6_isDirection
set_option maxRecDepth 200000 in
theorem ggX6_pointBeside_X6_columnOf : GoodIn wsX6_pointBeside wsX6_columnOf := goodIn_r _ [12] rfl (by decide +kernel)
set_option maxRecDepth 200000 in
theorem gX6_pointBeside_X6_columnOf : GoodIn wsX6_pointBeside (va_wsS RX6 313 yX6_columnOf wsX6_columnOf) := goodIn_app (goodIn_of _ (by decide +kernel)) ggX6_pointBeside_X6_columnOf
set_option maxRecDepth 200000 in
theorem ggX6_pointBeside_X6_rowOf : GoodIn wsX6_pointBeside wsX6_rowOf := goodIn_r _ [15] rfl (by decide +kernel)
set_option maxRecDepth 200000 in
theorem gX6_pointBeside_X6_rowOf : GoodIn wsX6_pointBeside (va_wsS RX6 320 yX6_rowOf wsX6_rowOf) := goodIn_app (goodIn_of _ (by decide +kernel)) ggX6_pointBeside_X6_rowOf
theorem dX6_pointBeside_0 : decode cX6_pointBeside 0 = .ok (.iload_n 0, 1) := by decide +kernel
theorem dX6_pointBeside_1 : decode cX6_pointBeside 1 = .ok (.invokestatic 301, 3) := by decide +kernel
theorem dX6_pointBeside_4 : decode cX6_pointBeside 4 = .ok (.ifCond .eq 10, 3) := by decide +kernel
theorem dX6_pointBeside_7 : decode cX6_pointBeside 7 = .ok (.iload_n 1, 1) := by decide +kernel
theorem dX6_pointBeside_8 : decode cX6_pointBeside 8 = .ok (.invokestatic 308, 3) := by decide +kernel
theorem dX6_pointBeside_11 : decode cX6_pointBeside 11 = .ok (.ifCond .ne 5, 3) := by decide +kernel
theorem dX6_pointBeside_14 : decode cX6_pointBeside 14 = .ok (.iconst (-1), 1) := by decide +kernel
theorem dX6_pointBeside_15 : decode cX6_pointBeside 15 = .ok (.ireturn, 1) := by decide +kernel
theorem dX6_pointBeside_16 : decode cX6_pointBeside 16 = .ok (.iload_n 0, 1) := by decide +kernel
theorem dX6_pointBeside_17 : decode cX6_pointBeside 17 = .ok (.invokestatic 313, 3) := by decide +kernel
theorem dX6_pointBeside_20 : decode cX6_pointBeside 20 = .ok (.getstatic 316, 3) := by decide +kernel
theorem dX6_pointBeside_23 : decode cX6_pointBeside 23 = .ok (.iload_n 1, 1) := by decide +kernel
theorem dX6_pointBeside_24 : decode cX6_pointBeside 24 = .ok (.iaload, 1) := by decide +kernel
theorem dX6_pointBeside_25 : decode cX6_pointBeside 25 = .ok (.iadd, 1) := by decide +kernel
theorem dX6_pointBeside_26 : decode cX6_pointBeside 26 = .ok (.istore_n 2, 1) := by decide +kernel
theorem dX6_pointBeside_27 : decode cX6_pointBeside 27 = .ok (.iload_n 0, 1) := by decide +kernel
theorem dX6_pointBeside_28 : decode cX6_pointBeside 28 = .ok (.invokestatic 320, 3) := by decide +kernel
theorem dX6_pointBeside_31 : decode cX6_pointBeside 31 = .ok (.getstatic 323, 3) := by decide +kernel
theorem dX6_pointBeside_34 : decode cX6_pointBeside 34 = .ok (.iload_n 1, 1) := by decide +kernel
theorem dX6_pointBeside_35 : decode cX6_pointBeside 35 = .ok (.iaload, 1) := by decide +kernel
theorem dX6_pointBeside_36 : decode cX6_pointBeside 36 = .ok (.iadd, 1) := by decide +kernel
theorem dX6_pointBeside_37 : decode cX6_pointBeside 37 = .ok (.istore_n 3, 1) := by decide +kernel
theorem dX6_pointBeside_38 : decode cX6_pointBeside 38 = .ok (.iload_n 2, 1) := by decide +kernel
theorem dX6_pointBeside_39 : decode cX6_pointBeside 39 = .ok (.ifCond .lt 19, 3) := by decide +kernel
theorem dX6_pointBeside_42 : decode cX6_pointBeside 42 = .ok (.iload_n 2, 1) := by decide +kernel
theorem dX6_pointBeside_43 : decode cX6_pointBeside 43 = .ok (.bipush 24, 2) := by decide +kernel
theorem dX6_pointBeside_45 : decode cX6_pointBeside 45 = .ok (.if_icmp .ge 13, 3) := by decide +kernel
theorem dX6_pointBeside_48 : decode cX6_pointBeside 48 = .ok (.iload_n 3, 1) := by decide +kernel
theorem dX6_pointBeside_49 : decode cX6_pointBeside 49 = .ok (.ifCond .lt 9, 3) := by decide +kernel
theorem dX6_pointBeside_52 : decode cX6_pointBeside 52 = .ok (.iload_n 3, 1) := by decide +kernel
theorem dX6_pointBeside_53 : decode cX6_pointBeside 53 = .ok (.bipush 16, 2) := by decide +kernel
theorem dX6_pointBeside_55 : decode cX6_pointBeside 55 = .ok (.if_icmp .lt 5, 3) := by decide +kernel
theorem dX6_pointBeside_58 : decode cX6_pointBeside 58 = .ok (.iconst (-1), 1) := by decide +kernel
theorem dX6_pointBeside_59 : decode cX6_pointBeside 59 = .ok (.ireturn, 1) := by decide +kernel
theorem dX6_pointBeside_60 : decode cX6_pointBeside 60 = .ok (.bipush 24, 2) := by decide +kernel
theorem dX6_pointBeside_62 : decode cX6_pointBeside 62 = .ok (.iload_n 3, 1) := by decide +kernel
theorem dX6_pointBeside_63 : decode cX6_pointBeside 63 = .ok (.imul, 1) := by decide +kernel
theorem dX6_pointBeside_64 : decode cX6_pointBeside 64 = .ok (.iload_n 2, 1) := by decide +kernel
theorem dX6_pointBeside_65 : decode cX6_pointBeside 65 = .ok (.iadd, 1) := by decide +kernel
theorem dX6_pointBeside_66 : decode cX6_pointBeside 66 = .ok (.ireturn, 1) := by decide +kernel
set_option maxRecDepth 200000 in
theorem ggX6_distance_X6_columnOf : GoodIn wsX6_distance wsX6_columnOf := goodIn_r _ [11] rfl (by decide +kernel)
set_option maxRecDepth 200000 in
theorem gX6_distance_X6_columnOf : GoodIn wsX6_distance (va_wsS RX6 313 yX6_columnOf wsX6_columnOf) := goodIn_app (goodIn_of _ (by decide +kernel)) ggX6_distance_X6_columnOf
set_option maxRecDepth 200000 in
theorem ggX6_distance_X6_rowOf : GoodIn wsX6_distance wsX6_rowOf := goodIn_r _ [14] rfl (by decide +kernel)
set_option maxRecDepth 200000 in
theorem gX6_distance_X6_rowOf : GoodIn wsX6_distance (va_wsS RX6 320 yX6_rowOf wsX6_rowOf) := goodIn_app (goodIn_of _ (by decide +kernel)) ggX6_distance_X6_rowOf
theorem dX6_distance_0 : decode cX6_distance 0 = .ok (.iload_n 0, 1) := by decide +kernel
theorem dX6_distance_1 : decode cX6_distance 1 = .ok (.invokestatic 313, 3) := by decide +kernel
theorem dX6_distance_4 : decode cX6_distance 4 = .ok (.iload_n 1, 1) := by decide +kernel
theorem dX6_distance_5 : decode cX6_distance 5 = .ok (.invokestatic 313, 3) := by decide +kernel
theorem dX6_distance_8 : decode cX6_distance 8 = .ok (.isub, 1) := by decide +kernel
theorem dX6_distance_9 : decode cX6_distance 9 = .ok (.invokestatic 197, 3) := by decide +kernel
theorem dX6_distance_12 : decode cX6_distance 12 = .ok (.istore_n 2, 1) := by decide +kernel
theorem dX6_distance_13 : decode cX6_distance 13 = .ok (.iload_n 0, 1) := by decide +kernel
theorem dX6_distance_14 : decode cX6_distance 14 = .ok (.invokestatic 320, 3) := by decide +kernel
theorem dX6_distance_17 : decode cX6_distance 17 = .ok (.iload_n 1, 1) := by decide +kernel
theorem dX6_distance_18 : decode cX6_distance 18 = .ok (.invokestatic 320, 3) := by decide +kernel
theorem dX6_distance_21 : decode cX6_distance 21 = .ok (.isub, 1) := by decide +kernel
theorem dX6_distance_22 : decode cX6_distance 22 = .ok (.invokestatic 197, 3) := by decide +kernel
theorem dX6_distance_25 : decode cX6_distance 25 = .ok (.istore_n 3, 1) := by decide +kernel
theorem dX6_distance_26 : decode cX6_distance 26 = .ok (.iload_n 2, 1) := by decide +kernel
theorem dX6_distance_27 : decode cX6_distance 27 = .ok (.iload_n 3, 1) := by decide +kernel
theorem dX6_distance_28 : decode cX6_distance 28 = .ok (.invokestatic 326, 3) := by decide +kernel
theorem dX6_distance_31 : decode cX6_distance 31 = .ok (.ireturn, 1) := by decide +kernel
theorem dX6_slantingLength_0 : decode cX6_slantingLength 0 = .ok (.ldc2_w 329, 3) := by decide +kernel
theorem dX6_slantingLength_3 : decode cX6_slantingLength 3 = .ok (.dreturn, 1) := by decide +kernel
theorem dJ9_abs_0f7a4_0 : decode cJ9_abs_0f7a4 0 = .ok (.iload_n 0, 1) := by decide +kernel
theorem dJ9_abs_0f7a4_1 : decode cJ9_abs_0f7a4 1 = .ok (.ifCond .ge 8, 3) := by decide +kernel
theorem dJ9_abs_0f7a4_4 : decode cJ9_abs_0f7a4 4 = .ok (.iload_n 0, 1) := by decide +kernel
theorem dJ9_abs_0f7a4_5 : decode cJ9_abs_0f7a4 5 = .ok (.ineg, 1) := by decide +kernel
theorem dJ9_abs_0f7a4_6 : decode cJ9_abs_0f7a4 6 = .ok (.goto 4, 3) := by decide +kernel
theorem dJ9_abs_0f7a4_9 : decode cJ9_abs_0f7a4 9 = .ok (.iload_n 0, 1) := by decide +kernel
theorem dJ9_abs_0f7a4_10 : decode cJ9_abs_0f7a4 10 = .ok (.ireturn, 1) := by decide +kernel
theorem dJ9_max_7cf53_0 : decode cJ9_max_7cf53 0 = .ok (.iload_n 0, 1) := by decide +kernel
theorem dJ9_max_7cf53_1 : decode cJ9_max_7cf53 1 = .ok (.iload_n 1, 1) := by decide +kernel
theorem dJ9_max_7cf53_2 : decode cJ9_max_7cf53 2 = .ok (.if_icmp .lt 7, 3) := by decide +kernel
theorem dJ9_max_7cf53_5 : decode cJ9_max_7cf53 5 = .ok (.iload_n 0, 1) := by decide +kernel
theorem dJ9_max_7cf53_6 : decode cJ9_max_7cf53 6 = .ok (.goto 4, 3) := by decide +kernel
theorem dJ9_max_7cf53_9 : decode cJ9_max_7cf53 9 = .ok (.iload_n 1, 1) := by decide +kernel
theorem dJ9_max_7cf53_10 : decode cJ9_max_7cf53 10 = .ok (.ireturn, 1) := by decide +kernel
theorem dJ9_min_7cf53_0 : decode cJ9_min_7cf53 0 = .ok (.iload_n 0, 1) := by decide +kernel
theorem dJ9_min_7cf53_1 : decode cJ9_min_7cf53 1 = .ok (.iload_n 1, 1) := by decide +kernel
theorem dJ9_min_7cf53_2 : decode cJ9_min_7cf53 2 = .ok (.if_icmp .gt 7, 3) := by decide +kernel
theorem dJ9_min_7cf53_5 : decode cJ9_min_7cf53 5 = .ok (.iload_n 0, 1) := by decide +kernel
theorem dJ9_min_7cf53_6 : decode cJ9_min_7cf53 6 = .ok (.goto 4, 3) := by decide +kernel
theorem dJ9_min_7cf53_9 : decode cJ9_min_7cf53 9 = .ok (.iload_n 1, 1) := by decide +kernel
theorem dJ9_min_7cf53_10 : decode cJ9_min_7cf53 10 = .ok (.ireturn, 1) := by decide +kernel
theorem dL_cell_0 : decode cL_cell 0 = .ok (.iload_n 1, 1) := by decide +kernel
theorem dL_cell_1 : decode cL_cell 1 = .ok (.aload_n 0, 1) := by decide +kernel
theorem dL_cell_2 : decode cL_cell 2 = .ok (.arraylength, 1) := by decide +kernel
theorem dL_cell_3 : decode cL_cell 3 = .ok (.if_icmp .ge 9, 3) := by decide +kernel
theorem dL_cell_6 : decode cL_cell 6 = .ok (.aload_n 0, 1) := by decide +kernel
theorem dL_cell_7 : decode cL_cell 7 = .ok (.iload_n 1, 1) := by decide +kernel
theorem dL_cell_8 : decode cL_cell 8 = .ok (.iaload, 1) := by decide +kernel
theorem dL_cell_9 : decode cL_cell 9 = .ok (.goto 9, 3) := by decide +kernel
theorem dL_cell_12 : decode cL_cell 12 = .ok (.ldc 7, 2) := by decide +kernel
theorem dL_cell_14 : decode cL_cell 14 = .ok (.iload_n 1, 1) := by decide +kernel
theorem dL_cell_15 : decode cL_cell 15 = .ok (.iconst 1, 1) := by decide +kernel
theorem dL_cell_16 : decode cL_cell 16 = .ok (.iadd, 1) := by decide +kernel
theorem dL_cell_17 : decode cL_cell 17 = .ok (.imul, 1) := by decide +kernel
theorem dL_cell_18 : decode cL_cell 18 = .ok (.ireturn, 1) := by decide +kernel
theorem dL_low_0 : decode cL_low 0 = .ok (.iload_n 0, 1) := by decide +kernel
theorem dL_low_1 : decode cL_low 1 = .ok (.ldc 8, 2) := by decide +kernel
theorem dL_low_3 : decode cL_low 3 = .ok (.iand, 1) := by decide +kernel
theorem dL_low_4 : decode cL_low 4 = .ok (.iload_n 1, 1) := by decide +kernel
theorem dL_low_5 : decode cL_low 5 = .ok (.irem, 1) := by decide +kernel
theorem dL_low_6 : decode cL_low 6 = .ok (.ireturn, 1) := by decide +kernel
theorem dL_dir_0 : decode cL_dir 0 = .ok (.aload_n 0, 1) := by decide +kernel
theorem dL_dir_1 : decode cL_dir 1 = .ok (.iconst 3, 1) := by decide +kernel
theorem dL_dir_2 : decode cL_dir 2 = .ok (.iload_n 1, 1) := by decide +kernel
theorem dL_dir_3 : decode cL_dir 3 = .ok (.imul, 1) := by decide +kernel
theorem dL_dir_4 : decode cL_dir 4 = .ok (.iload_n 2, 1) := by decide +kernel
theorem dL_dir_5 : decode cL_dir 5 = .ok (.bipush 20, 2) := by decide +kernel
theorem dL_dir_7 : decode cL_dir 7 = .ok (.idiv, 1) := by decide +kernel
theorem dL_dir_8 : decode cL_dir 8 = .ok (.iadd, 1) := by decide +kernel
theorem dL_dir_9 : decode cL_dir 9 = .ok (.laload, 1) := by decide +kernel
theorem dL_dir_10 : decode cL_dir 10 = .ok (.iconst 3, 1) := by decide +kernel
theorem dL_dir_11 : decode cL_dir 11 = .ok (.iload_n 2, 1) := by decide +kernel
theorem dL_dir_12 : decode cL_dir 12 = .ok (.bipush 20, 2) := by decide +kernel
theorem dL_dir_14 : decode cL_dir 14 = .ok (.irem, 1) := by decide +kernel
theorem dL_dir_15 : decode cL_dir 15 = .ok (.imul, 1) := by decide +kernel
theorem dL_dir_16 : decode cL_dir 16 = .ok (.lshr, 1) := by decide +kernel
theorem dL_dir_17 : decode cL_dir 17 = .ok (.l2i, 1) := by decide +kernel
theorem dL_dir_18 : decode cL_dir 18 = .ok (.bipush 7, 2) := by decide +kernel
theorem dL_dir_20 : decode cL_dir 20 = .ok (.iand, 1) := by decide +kernel
theorem dL_dir_21 : decode cL_dir 21 = .ok (.ireturn, 1) := by decide +kernel
theorem dL_right_0 : decode cL_right 0 = .ok (.iload_n 0, 1) := by decide +kernel
theorem dL_right_1 : decode cL_right 1 = .ok (.iconst 4, 1) := by decide +kernel
theorem dL_right_2 : decode cL_right 2 = .ok (.irem, 1) := by decide +kernel
theorem dL_right_3 : decode cL_right 3 = .ok (.iconst 2, 1) := by decide +kernel
theorem dL_right_4 : decode cL_right 4 = .ok (.if_icmp .ne 7, 3) := by decide +kernel
theorem dL_right_7 : decode cL_right 7 = .ok (.iconst 0, 1) := by decide +kernel
theorem dL_right_8 : decode cL_right 8 = .ok (.goto 19, 3) := by decide +kernel
theorem dL_right_11 : decode cL_right 11 = .ok (.iload_n 0, 1) := by decide +kernel
theorem dL_right_12 : decode cL_right 12 = .ok (.iconst 2, 1) := by decide +kernel
theorem dL_right_13 : decode cL_right 13 = .ok (.if_icmp .le 13, 3) := by decide +kernel
theorem dL_right_16 : decode cL_right 16 = .ok (.iload_n 0, 1) := by decide +kernel
theorem dL_right_17 : decode cL_right 17 = .ok (.bipush 6, 2) := by decide +kernel
theorem dL_right_19 : decode cL_right 19 = .ok (.if_icmp .ge 7, 3) := by decide +kernel
theorem dL_right_22 : decode cL_right 22 = .ok (.iconst (-1), 1) := by decide +kernel
theorem dL_right_23 : decode cL_right 23 = .ok (.goto 4, 3) := by decide +kernel
theorem dL_right_26 : decode cL_right 26 = .ok (.iconst 1, 1) := by decide +kernel
theorem dL_right_27 : decode cL_right 27 = .ok (.ireturn, 1) := by decide +kernel
theorem dL_below_0 : decode cL_below 0 = .ok (.iload_n 0, 1) := by decide +kernel
theorem dL_below_1 : decode cL_below 1 = .ok (.iconst 4, 1) := by decide +kernel
theorem dL_below_2 : decode cL_below 2 = .ok (.irem, 1) := by decide +kernel
theorem dL_below_3 : decode cL_below 3 = .ok (.ifCond .ne 7, 3) := by decide +kernel
theorem dL_below_6 : decode cL_below 6 = .ok (.iconst 0, 1) := by decide +kernel
theorem dL_below_7 : decode cL_below 7 = .ok (.goto 13, 3) := by decide +kernel
theorem dL_below_10 : decode cL_below 10 = .ok (.iload_n 0, 1) := by decide +kernel
theorem dL_below_11 : decode cL_below 11 = .ok (.iconst 4, 1) := by decide +kernel
theorem dL_below_12 : decode cL_below 12 = .ok (.if_icmp .ge 7, 3) := by decide +kernel
theorem dL_below_15 : decode cL_below 15 = .ok (.iconst 1, 1) := by decide +kernel
theorem dL_below_16 : decode cL_below 16 = .ok (.goto 4, 3) := by decide +kernel
theorem dL_below_19 : decode cL_below 19 = .ok (.iconst (-1), 1) := by decide +kernel
theorem dL_below_20 : decode cL_below 20 = .ok (.ireturn, 1) := by decide +kernel
set_option maxRecDepth 200000 in
theorem ggL_walks_L_dir : GoodIn wsL_walks wsL_dir := goodIn_r _ [4] rfl (by decide +kernel)
set_option maxRecDepth 200000 in
theorem gL_walks_L_dir : GoodIn wsL_walks (va_wsS RL 9 yL_dir wsL_dir) := goodIn_app (goodIn_of _ (by decide +kernel)) ggL_walks_L_dir
set_option maxRecDepth 200000 in
theorem ggL_walks_L_right : GoodIn wsL_walks wsL_right := goodIn_r _ [7] rfl (by decide +kernel)
set_option maxRecDepth 200000 in
theorem gL_walks_L_right : GoodIn wsL_walks (va_wsS RL 15 yL_right wsL_right) := goodIn_app (goodIn_of _ (by decide +kernel)) ggL_walks_L_right
set_option maxRecDepth 200000 in
theorem ggL_walks_L_below : GoodIn wsL_walks wsL_below := goodIn_r _ [10] rfl (by decide +kernel)
set_option maxRecDepth 200000 in
theorem gL_walks_L_below : GoodIn wsL_walks (va_wsS RL 19 yL_below wsL_below) := goodIn_app (goodIn_of _ (by decide +kernel)) ggL_walks_L_below
theorem dL_walks_0 : decode cL_walks 0 = .ok (.aload_n 3, 1) := by decide +kernel
theorem dL_walks_1 : decode cL_walks 1 = .ok (.iconst 0, 1) := by decide +kernel
theorem dL_walks_2 : decode cL_walks 2 = .ok (.aload_n 0, 1) := by decide +kernel
theorem dL_walks_3 : decode cL_walks 3 = .ok (.iconst 4, 1) := by decide +kernel
theorem dL_walks_4 : decode cL_walks 4 = .ok (.iload_n 2, 1) := by decide +kernel
theorem dL_walks_5 : decode cL_walks 5 = .ok (.imul, 1) := by decide +kernel
theorem dL_walks_6 : decode cL_walks 6 = .ok (.iconst 1, 1) := by decide +kernel
theorem dL_walks_7 : decode cL_walks 7 = .ok (.iadd, 1) := by decide +kernel
theorem dL_walks_8 : decode cL_walks 8 = .ok (.iaload, 1) := by decide +kernel
theorem dL_walks_9 : decode cL_walks 9 = .ok (.iastore, 1) := by decide +kernel
theorem dL_walks_10 : decode cL_walks 10 = .ok (.iconst 0, 1) := by decide +kernel
theorem dL_walks_11 : decode cL_walks 11 = .ok (.istore 4, 2) := by decide +kernel
theorem dL_walks_13 : decode cL_walks 13 = .ok (.iload 4, 2) := by decide +kernel
theorem dL_walks_15 : decode cL_walks 15 = .ok (.aload_n 0, 1) := by decide +kernel
theorem dL_walks_16 : decode cL_walks 16 = .ok (.iconst 4, 1) := by decide +kernel
theorem dL_walks_17 : decode cL_walks 17 = .ok (.iload_n 2, 1) := by decide +kernel
theorem dL_walks_18 : decode cL_walks 18 = .ok (.imul, 1) := by decide +kernel
theorem dL_walks_19 : decode cL_walks 19 = .ok (.iconst 2, 1) := by decide +kernel
theorem dL_walks_20 : decode cL_walks 20 = .ok (.iadd, 1) := by decide +kernel
theorem dL_walks_21 : decode cL_walks 21 = .ok (.iaload, 1) := by decide +kernel
theorem dL_walks_22 : decode cL_walks 22 = .ok (.if_icmp .ge 44, 3) := by decide +kernel
theorem dL_walks_25 : decode cL_walks 25 = .ok (.aload_n 3, 1) := by decide +kernel
theorem dL_walks_26 : decode cL_walks 26 = .ok (.iload 4, 2) := by decide +kernel
theorem dL_walks_28 : decode cL_walks 28 = .ok (.iconst 1, 1) := by decide +kernel
theorem dL_walks_29 : decode cL_walks 29 = .ok (.iadd, 1) := by decide +kernel
theorem dL_walks_30 : decode cL_walks 30 = .ok (.aload_n 3, 1) := by decide +kernel
theorem dL_walks_31 : decode cL_walks 31 = .ok (.iload 4, 2) := by decide +kernel
theorem dL_walks_33 : decode cL_walks 33 = .ok (.iaload, 1) := by decide +kernel
theorem dL_walks_34 : decode cL_walks 34 = .ok (.aload_n 1, 1) := by decide +kernel
theorem dL_walks_35 : decode cL_walks 35 = .ok (.iload_n 2, 1) := by decide +kernel
theorem dL_walks_36 : decode cL_walks 36 = .ok (.iload 4, 2) := by decide +kernel
theorem dL_walks_38 : decode cL_walks 38 = .ok (.invokestatic 9, 3) := by decide +kernel
theorem dL_walks_41 : decode cL_walks 41 = .ok (.invokestatic 15, 3) := by decide +kernel
theorem dL_walks_44 : decode cL_walks 44 = .ok (.iadd, 1) := by decide +kernel
theorem dL_walks_45 : decode cL_walks 45 = .ok (.bipush 24, 2) := by decide +kernel
theorem dL_walks_47 : decode cL_walks 47 = .ok (.aload_n 1, 1) := by decide +kernel
theorem dL_walks_48 : decode cL_walks 48 = .ok (.iload_n 2, 1) := by decide +kernel
theorem dL_walks_49 : decode cL_walks 49 = .ok (.iload 4, 2) := by decide +kernel
theorem dL_walks_51 : decode cL_walks 51 = .ok (.invokestatic 9, 3) := by decide +kernel
theorem dL_walks_54 : decode cL_walks 54 = .ok (.invokestatic 19, 3) := by decide +kernel
theorem dL_walks_57 : decode cL_walks 57 = .ok (.imul, 1) := by decide +kernel
theorem dL_walks_58 : decode cL_walks 58 = .ok (.iadd, 1) := by decide +kernel
theorem dL_walks_59 : decode cL_walks 59 = .ok (.iastore, 1) := by decide +kernel
theorem dL_walks_60 : decode cL_walks 60 = .ok (.iinc 4 1, 3) := by decide +kernel
theorem dL_walks_63 : decode cL_walks 63 = .ok (.goto (-50), 3) := by decide +kernel
theorem dL_walks_66 : decode cL_walks 66 = .ok (.return_, 1) := by decide +kernel
theorem dL_closed_0 : decode cL_closed 0 = .ok (.aload_n 0, 1) := by decide +kernel
theorem dL_closed_1 : decode cL_closed 1 = .ok (.iconst 4, 1) := by decide +kernel
theorem dL_closed_2 : decode cL_closed 2 = .ok (.iload_n 1, 1) := by decide +kernel
theorem dL_closed_3 : decode cL_closed 3 = .ok (.imul, 1) := by decide +kernel
theorem dL_closed_4 : decode cL_closed 4 = .ok (.iconst 2, 1) := by decide +kernel
theorem dL_closed_5 : decode cL_closed 5 = .ok (.iadd, 1) := by decide +kernel
theorem dL_closed_6 : decode cL_closed 6 = .ok (.iaload, 1) := by decide +kernel
theorem dL_closed_7 : decode cL_closed 7 = .ok (.istore_n 3, 1) := by decide +kernel
theorem dL_closed_8 : decode cL_closed 8 = .ok (.iload_n 3, 1) := by decide +kernel
theorem dL_closed_9 : decode cL_closed 9 = .ok (.iconst 3, 1) := by decide +kernel
theorem dL_closed_10 : decode cL_closed 10 = .ok (.if_icmp .le 16, 3) := by decide +kernel
theorem dL_closed_13 : decode cL_closed 13 = .ok (.aload_n 2, 1) := by decide +kernel
theorem dL_closed_14 : decode cL_closed 14 = .ok (.iload_n 3, 1) := by decide +kernel
theorem dL_closed_15 : decode cL_closed 15 = .ok (.iaload, 1) := by decide +kernel
theorem dL_closed_16 : decode cL_closed 16 = .ok (.aload_n 2, 1) := by decide +kernel
theorem dL_closed_17 : decode cL_closed 17 = .ok (.iconst 0, 1) := by decide +kernel
theorem dL_closed_18 : decode cL_closed 18 = .ok (.iaload, 1) := by decide +kernel
theorem dL_closed_19 : decode cL_closed 19 = .ok (.if_icmp .ne 7, 3) := by decide +kernel
theorem dL_closed_22 : decode cL_closed 22 = .ok (.iconst 1, 1) := by decide +kernel
theorem dL_closed_23 : decode cL_closed 23 = .ok (.goto 4, 3) := by decide +kernel
theorem dL_closed_26 : decode cL_closed 26 = .ok (.iconst 0, 1) := by decide +kernel
theorem dL_closed_27 : decode cL_closed 27 = .ok (.ireturn, 1) := by decide +kernel
set_option maxRecDepth 200000 in
theorem ggL_owner_L_walks : GoodIn wsL_owner wsL_walks := goodIn_r _ [5, 6, 7, 4, 8, 9, 10, 11, 12, 13, 14] rfl (by decide +kernel)
set_option maxRecDepth 200000 in
theorem gL_owner_L_walks : GoodIn wsL_owner (va_wsS RL 22 yL_walks wsL_walks) := goodIn_app (goodIn_of _ (by decide +kernel)) ggL_owner_L_walks
theorem dL_owner_0 : decode cL_owner 0 = .ok (.bipush 61, 2) := by decide +kernel
theorem dL_owner_2 : decode cL_owner 2 = .ok (.newarray .int, 2) := by decide +kernel
theorem dL_owner_4 : decode cL_owner 4 = .ok (.astore_n 3, 1) := by decide +kernel
theorem dL_owner_5 : decode cL_owner 5 = .ok (.iconst (-1), 1) := by decide +kernel
theorem dL_owner_6 : decode cL_owner 6 = .ok (.istore 4, 2) := by decide +kernel
theorem dL_owner_8 : decode cL_owner 8 = .ok (.iconst 0, 1) := by decide +kernel
theorem dL_owner_9 : decode cL_owner 9 = .ok (.istore 5, 2) := by decide +kernel
theorem dL_owner_11 : decode cL_owner 11 = .ok (.iload 5, 2) := by decide +kernel
theorem dL_owner_13 : decode cL_owner 13 = .ok (.aload_n 0, 1) := by decide +kernel
theorem dL_owner_14 : decode cL_owner 14 = .ok (.bipush 32, 2) := by decide +kernel
theorem dL_owner_16 : decode cL_owner 16 = .ok (.iaload, 1) := by decide +kernel
theorem dL_owner_17 : decode cL_owner 17 = .ok (.if_icmp .ge 56, 3) := by decide +kernel
theorem dL_owner_20 : decode cL_owner 20 = .ok (.aload_n 0, 1) := by decide +kernel
theorem dL_owner_21 : decode cL_owner 21 = .ok (.aload_n 1, 1) := by decide +kernel
theorem dL_owner_22 : decode cL_owner 22 = .ok (.iload 5, 2) := by decide +kernel
theorem dL_owner_24 : decode cL_owner 24 = .ok (.aload_n 3, 1) := by decide +kernel
theorem dL_owner_25 : decode cL_owner 25 = .ok (.invokestatic 22, 3) := by decide +kernel
theorem dL_owner_28 : decode cL_owner 28 = .ok (.iconst 0, 1) := by decide +kernel
theorem dL_owner_29 : decode cL_owner 29 = .ok (.istore 6, 2) := by decide +kernel
theorem dL_owner_31 : decode cL_owner 31 = .ok (.iload 6, 2) := by decide +kernel
theorem dL_owner_33 : decode cL_owner 33 = .ok (.aload_n 0, 1) := by decide +kernel
theorem dL_owner_34 : decode cL_owner 34 = .ok (.iconst 4, 1) := by decide +kernel
theorem dL_owner_35 : decode cL_owner 35 = .ok (.iload 5, 2) := by decide +kernel
theorem dL_owner_37 : decode cL_owner 37 = .ok (.imul, 1) := by decide +kernel
theorem dL_owner_38 : decode cL_owner 38 = .ok (.iconst 2, 1) := by decide +kernel
theorem dL_owner_39 : decode cL_owner 39 = .ok (.iadd, 1) := by decide +kernel
theorem dL_owner_40 : decode cL_owner 40 = .ok (.iaload, 1) := by decide +kernel
theorem dL_owner_41 : decode cL_owner 41 = .ok (.if_icmp .gt 26, 3) := by decide +kernel
theorem dL_owner_44 : decode cL_owner 44 = .ok (.aload_n 3, 1) := by decide +kernel
theorem dL_owner_45 : decode cL_owner 45 = .ok (.iload 6, 2) := by decide +kernel
theorem dL_owner_47 : decode cL_owner 47 = .ok (.iaload, 1) := by decide +kernel
theorem dL_owner_48 : decode cL_owner 48 = .ok (.iload_n 2, 1) := by decide +kernel
theorem dL_owner_49 : decode cL_owner 49 = .ok (.if_icmp .ne 8, 3) := by decide +kernel
theorem dL_owner_52 : decode cL_owner 52 = .ok (.iload 5, 2) := by decide +kernel
theorem dL_owner_54 : decode cL_owner 54 = .ok (.goto 5, 3) := by decide +kernel
theorem dL_owner_57 : decode cL_owner 57 = .ok (.iload 4, 2) := by decide +kernel
theorem dL_owner_59 : decode cL_owner 59 = .ok (.istore 4, 2) := by decide +kernel
theorem dL_owner_61 : decode cL_owner 61 = .ok (.iinc 6 1, 3) := by decide +kernel
theorem dL_owner_64 : decode cL_owner 64 = .ok (.goto (-33), 3) := by decide +kernel
theorem dL_owner_67 : decode cL_owner 67 = .ok (.iinc 5 1, 3) := by decide +kernel
theorem dL_owner_70 : decode cL_owner 70 = .ok (.goto (-59), 3) := by decide +kernel
theorem dL_owner_73 : decode cL_owner 73 = .ok (.iload 4, 2) := by decide +kernel
theorem dL_owner_75 : decode cL_owner 75 = .ok (.ireturn, 1) := by decide +kernel
set_option maxRecDepth 200000 in
theorem ggL_why_L_walks : GoodIn wsL_why wsL_walks := goodIn_r _ [5, 6, 7, 4, 8, 9, 10, 11, 12, 13, 14] rfl (by decide +kernel)
set_option maxRecDepth 200000 in
theorem gL_why_L_walks : GoodIn wsL_why (va_wsS RL 22 yL_walks wsL_walks) := goodIn_app (goodIn_of _ (by decide +kernel)) ggL_why_L_walks
set_option maxRecDepth 200000 in
theorem ggL_why_L_closed : GoodIn wsL_why wsL_closed := goodIn_r _ [17] rfl (by decide +kernel)
set_option maxRecDepth 200000 in
theorem gL_why_L_closed : GoodIn wsL_why (va_wsS RL 26 yL_closed wsL_closed) := goodIn_app (goodIn_of _ (by decide +kernel)) ggL_why_L_closed
set_option maxRecDepth 200000 in
theorem ggL_why_L_right : GoodIn wsL_why wsL_right := goodIn_r _ [11] rfl (by decide +kernel)
set_option maxRecDepth 200000 in
theorem gL_why_L_right : GoodIn wsL_why (va_wsS RL 15 yL_right wsL_right) := goodIn_app (goodIn_of _ (by decide +kernel)) ggL_why_L_right
set_option maxRecDepth 200000 in
theorem ggL_why_L_below : GoodIn wsL_why wsL_below := goodIn_r _ [14] rfl (by decide +kernel)
set_option maxRecDepth 200000 in
theorem gL_why_L_below : GoodIn wsL_why (va_wsS RL 19 yL_below wsL_below) := goodIn_app (goodIn_of _ (by decide +kernel)) ggL_why_L_below
set_option maxRecDepth 200000 in
theorem ggL_why_L_owner : GoodIn wsL_why wsL_owner := goodIn_r _ [20, 1, 2, 3, 4, 5, 6, 7, 8, 9, 10, 11, 12, 13, 14] rfl (by decide +kernel)
set_option maxRecDepth 200000 in
theorem gL_why_L_owner : GoodIn wsL_why (va_wsS RL 30 yL_owner wsL_owner) := goodIn_app (goodIn_of _ (by decide +kernel)) ggL_why_L_owner
set_option maxRecDepth 200000 in
theorem ggL_why_L_dir : GoodIn wsL_why wsL_dir := goodIn_r _ [8] rfl (by decide +kernel)
set_option maxRecDepth 200000 in
theorem gL_why_L_dir : GoodIn wsL_why (va_wsS RL 9 yL_dir wsL_dir) := goodIn_app (goodIn_of _ (by decide +kernel)) ggL_why_L_dir
theorem dL_why_0 : decode cL_why 0 = .ok (.bipush 61, 2) := by decide +kernel
theorem dL_why_2 : decode cL_why 2 = .ok (.newarray .int, 2) := by decide +kernel
theorem dL_why_4 : decode cL_why 4 = .ok (.astore 4, 2) := by decide +kernel
theorem dL_why_6 : decode cL_why 6 = .ok (.aload_n 0, 1) := by decide +kernel
theorem dL_why_7 : decode cL_why 7 = .ok (.aload_n 1, 1) := by decide +kernel
theorem dL_why_8 : decode cL_why 8 = .ok (.iload_n 2, 1) := by decide +kernel
theorem dL_why_9 : decode cL_why 9 = .ok (.aload 4, 2) := by decide +kernel
theorem dL_why_11 : decode cL_why 11 = .ok (.invokestatic 22, 3) := by decide +kernel
theorem dL_why_14 : decode cL_why 14 = .ok (.aload_n 0, 1) := by decide +kernel
theorem dL_why_15 : decode cL_why 15 = .ok (.iconst 4, 1) := by decide +kernel
theorem dL_why_16 : decode cL_why 16 = .ok (.iload_n 2, 1) := by decide +kernel
theorem dL_why_17 : decode cL_why 17 = .ok (.imul, 1) := by decide +kernel
theorem dL_why_18 : decode cL_why 18 = .ok (.iconst 2, 1) := by decide +kernel
theorem dL_why_19 : decode cL_why 19 = .ok (.iadd, 1) := by decide +kernel
theorem dL_why_20 : decode cL_why 20 = .ok (.iaload, 1) := by decide +kernel
theorem dL_why_21 : decode cL_why 21 = .ok (.istore 5, 2) := by decide +kernel
theorem dL_why_23 : decode cL_why 23 = .ok (.aload_n 0, 1) := by decide +kernel
theorem dL_why_24 : decode cL_why 24 = .ok (.iload_n 2, 1) := by decide +kernel
theorem dL_why_25 : decode cL_why 25 = .ok (.aload 4, 2) := by decide +kernel
theorem dL_why_27 : decode cL_why 27 = .ok (.invokestatic 26, 3) := by decide +kernel
theorem dL_why_30 : decode cL_why 30 = .ok (.ifCond .eq 5, 3) := by decide +kernel
theorem dL_why_33 : decode cL_why 33 = .ok (.iconst 1, 1) := by decide +kernel
theorem dL_why_34 : decode cL_why 34 = .ok (.ireturn, 1) := by decide +kernel
theorem dL_why_35 : decode cL_why 35 = .ok (.iload 5, 2) := by decide +kernel
theorem dL_why_37 : decode cL_why 37 = .ok (.bipush 60, 2) := by decide +kernel
theorem dL_why_39 : decode cL_why 39 = .ok (.if_icmp .ne 5, 3) := by decide +kernel
theorem dL_why_42 : decode cL_why 42 = .ok (.iconst 2, 1) := by decide +kernel
theorem dL_why_43 : decode cL_why 43 = .ok (.ireturn, 1) := by decide +kernel
theorem dL_why_44 : decode cL_why 44 = .ok (.aload 4, 2) := by decide +kernel
theorem dL_why_46 : decode cL_why 46 = .ok (.iload 5, 2) := by decide +kernel
theorem dL_why_48 : decode cL_why 48 = .ok (.iaload, 1) := by decide +kernel
theorem dL_why_49 : decode cL_why 49 = .ok (.istore 6, 2) := by decide +kernel
theorem dL_why_51 : decode cL_why 51 = .ok (.iload 6, 2) := by decide +kernel
theorem dL_why_53 : decode cL_why 53 = .ok (.bipush 24, 2) := by decide +kernel
theorem dL_why_55 : decode cL_why 55 = .ok (.irem, 1) := by decide +kernel
theorem dL_why_56 : decode cL_why 56 = .ok (.iload_n 3, 1) := by decide +kernel
theorem dL_why_57 : decode cL_why 57 = .ok (.invokestatic 15, 3) := by decide +kernel
theorem dL_why_60 : decode cL_why 60 = .ok (.iadd, 1) := by decide +kernel
theorem dL_why_61 : decode cL_why 61 = .ok (.istore 7, 2) := by decide +kernel
theorem dL_why_63 : decode cL_why 63 = .ok (.iload 6, 2) := by decide +kernel
theorem dL_why_65 : decode cL_why 65 = .ok (.iload_n 3, 1) := by decide +kernel
theorem dL_why_66 : decode cL_why 66 = .ok (.invokestatic 15, 3) := by decide +kernel
theorem dL_why_69 : decode cL_why 69 = .ok (.iadd, 1) := by decide +kernel
theorem dL_why_70 : decode cL_why 70 = .ok (.bipush 24, 2) := by decide +kernel
theorem dL_why_72 : decode cL_why 72 = .ok (.iload_n 3, 1) := by decide +kernel
theorem dL_why_73 : decode cL_why 73 = .ok (.invokestatic 19, 3) := by decide +kernel
theorem dL_why_76 : decode cL_why 76 = .ok (.imul, 1) := by decide +kernel
theorem dL_why_77 : decode cL_why 77 = .ok (.iadd, 1) := by decide +kernel
theorem dL_why_78 : decode cL_why 78 = .ok (.istore 8, 2) := by decide +kernel
theorem dL_why_80 : decode cL_why 80 = .ok (.iload 7, 2) := by decide +kernel
theorem dL_why_82 : decode cL_why 82 = .ok (.ifCond .lt 23, 3) := by decide +kernel
theorem dL_why_85 : decode cL_why 85 = .ok (.iload 7, 2) := by decide +kernel
theorem dL_why_87 : decode cL_why 87 = .ok (.bipush 23, 2) := by decide +kernel
theorem dL_why_89 : decode cL_why 89 = .ok (.if_icmp .gt 16, 3) := by decide +kernel
theorem dL_why_92 : decode cL_why 92 = .ok (.iload 8, 2) := by decide +kernel
theorem dL_why_94 : decode cL_why 94 = .ok (.ifCond .lt 11, 3) := by decide +kernel
theorem dL_why_97 : decode cL_why 97 = .ok (.iload 8, 2) := by decide +kernel
theorem dL_why_99 : decode cL_why 99 = .ok (.sipush 383, 3) := by decide +kernel
theorem dL_why_102 : decode cL_why 102 = .ok (.if_icmp .le 5, 3) := by decide +kernel
theorem dL_why_105 : decode cL_why 105 = .ok (.iconst 3, 1) := by decide +kernel
theorem dL_why_106 : decode cL_why 106 = .ok (.ireturn, 1) := by decide +kernel
theorem dL_why_107 : decode cL_why 107 = .ok (.aload_n 0, 1) := by decide +kernel
theorem dL_why_108 : decode cL_why 108 = .ok (.aload_n 1, 1) := by decide +kernel
theorem dL_why_109 : decode cL_why 109 = .ok (.iload 8, 2) := by decide +kernel
theorem dL_why_111 : decode cL_why 111 = .ok (.invokestatic 30, 3) := by decide +kernel
theorem dL_why_114 : decode cL_why 114 = .ok (.ifCond .lt 20, 3) := by decide +kernel
theorem dL_why_117 : decode cL_why 117 = .ok (.iload 8, 2) := by decide +kernel
theorem dL_why_119 : decode cL_why 119 = .ok (.aload 4, 2) := by decide +kernel
theorem dL_why_121 : decode cL_why 121 = .ok (.iconst 0, 1) := by decide +kernel
theorem dL_why_122 : decode cL_why 122 = .ok (.iaload, 1) := by decide +kernel
theorem dL_why_123 : decode cL_why 123 = .ok (.if_icmp .ne 9, 3) := by decide +kernel
theorem dL_why_126 : decode cL_why 126 = .ok (.iload 5, 2) := by decide +kernel
theorem dL_why_128 : decode cL_why 128 = .ok (.iconst 3, 1) := by decide +kernel
theorem dL_why_129 : decode cL_why 129 = .ok (.if_icmp .ge 5, 3) := by decide +kernel
theorem dL_why_132 : decode cL_why 132 = .ok (.iconst 4, 1) := by decide +kernel
theorem dL_why_133 : decode cL_why 133 = .ok (.ireturn, 1) := by decide +kernel
theorem dL_why_134 : decode cL_why 134 = .ok (.iconst 0, 1) := by decide +kernel
theorem dL_why_135 : decode cL_why 135 = .ok (.istore 9, 2) := by decide +kernel
theorem dL_why_137 : decode cL_why 137 = .ok (.iconst 0, 1) := by decide +kernel
theorem dL_why_138 : decode cL_why 138 = .ok (.istore 10, 2) := by decide +kernel
theorem dL_why_140 : decode cL_why 140 = .ok (.iload 10, 2) := by decide +kernel
theorem dL_why_142 : decode cL_why 142 = .ok (.aload_n 0, 1) := by decide +kernel
theorem dL_why_143 : decode cL_why 143 = .ok (.bipush 32, 2) := by decide +kernel
theorem dL_why_145 : decode cL_why 145 = .ok (.iaload, 1) := by decide +kernel
theorem dL_why_146 : decode cL_why 146 = .ok (.if_icmp .ge 94, 3) := by decide +kernel
theorem dL_why_149 : decode cL_why 149 = .ok (.aload_n 0, 1) := by decide +kernel
theorem dL_why_150 : decode cL_why 150 = .ok (.aload_n 1, 1) := by decide +kernel
theorem dL_why_151 : decode cL_why 151 = .ok (.iload 10, 2) := by decide +kernel
theorem dL_why_153 : decode cL_why 153 = .ok (.aload 4, 2) := by decide +kernel
theorem dL_why_155 : decode cL_why 155 = .ok (.invokestatic 22, 3) := by decide +kernel
theorem dL_why_158 : decode cL_why 158 = .ok (.iconst 0, 1) := by decide +kernel
theorem dL_why_159 : decode cL_why 159 = .ok (.istore 11, 2) := by decide +kernel
theorem dL_why_161 : decode cL_why 161 = .ok (.iload 11, 2) := by decide +kernel
theorem dL_why_163 : decode cL_why 163 = .ok (.aload_n 0, 1) := by decide +kernel
theorem dL_why_164 : decode cL_why 164 = .ok (.iconst 4, 1) := by decide +kernel
theorem dL_why_165 : decode cL_why 165 = .ok (.iload 10, 2) := by decide +kernel
theorem dL_why_167 : decode cL_why 167 = .ok (.imul, 1) := by decide +kernel
theorem dL_why_168 : decode cL_why 168 = .ok (.iconst 2, 1) := by decide +kernel
theorem dL_why_169 : decode cL_why 169 = .ok (.iadd, 1) := by decide +kernel
theorem dL_why_170 : decode cL_why 170 = .ok (.iaload, 1) := by decide +kernel
theorem dL_why_171 : decode cL_why 171 = .ok (.if_icmp .ge 63, 3) := by decide +kernel
theorem dL_why_174 : decode cL_why 174 = .ok (.iload 9, 2) := by decide +kernel
theorem dL_why_176 : decode cL_why 176 = .ok (.ifCond .ne 45, 3) := by decide +kernel
theorem dL_why_179 : decode cL_why 179 = .ok (.iload_n 3, 1) := by decide +kernel
theorem dL_why_180 : decode cL_why 180 = .ok (.iconst 2, 1) := by decide +kernel
theorem dL_why_181 : decode cL_why 181 = .ok (.irem, 1) := by decide +kernel
theorem dL_why_182 : decode cL_why 182 = .ok (.iconst 1, 1) := by decide +kernel
theorem dL_why_183 : decode cL_why 183 = .ok (.if_icmp .ne 42, 3) := by decide +kernel
theorem dL_why_186 : decode cL_why 186 = .ok (.aload_n 1, 1) := by decide +kernel
theorem dL_why_187 : decode cL_why 187 = .ok (.iload 10, 2) := by decide +kernel
theorem dL_why_189 : decode cL_why 189 = .ok (.iload 11, 2) := by decide +kernel
theorem dL_why_191 : decode cL_why 191 = .ok (.invokestatic 9, 3) := by decide +kernel
theorem dL_why_194 : decode cL_why 194 = .ok (.iconst 2, 1) := by decide +kernel
theorem dL_why_195 : decode cL_why 195 = .ok (.irem, 1) := by decide +kernel
theorem dL_why_196 : decode cL_why 196 = .ok (.iconst 1, 1) := by decide +kernel
theorem dL_why_197 : decode cL_why 197 = .ok (.if_icmp .ne 28, 3) := by decide +kernel
theorem dL_why_200 : decode cL_why 200 = .ok (.aload 4, 2) := by decide +kernel
theorem dL_why_202 : decode cL_why 202 = .ok (.iload 11, 2) := by decide +kernel
theorem dL_why_204 : decode cL_why 204 = .ok (.iaload, 1) := by decide +kernel
theorem dL_why_205 : decode cL_why 205 = .ok (.aload 4, 2) := by decide +kernel
theorem dL_why_207 : decode cL_why 207 = .ok (.iload 11, 2) := by decide +kernel
theorem dL_why_209 : decode cL_why 209 = .ok (.iconst 1, 1) := by decide +kernel
theorem dL_why_210 : decode cL_why 210 = .ok (.iadd, 1) := by decide +kernel
theorem dL_why_211 : decode cL_why 211 = .ok (.iaload, 1) := by decide +kernel
theorem dL_why_212 : decode cL_why 212 = .ok (.iadd, 1) := by decide +kernel
theorem dL_why_213 : decode cL_why 213 = .ok (.iload 6, 2) := by decide +kernel
theorem dL_why_215 : decode cL_why 215 = .ok (.iload 8, 2) := by decide +kernel
theorem dL_why_217 : decode cL_why 217 = .ok (.iadd, 1) := by decide +kernel
theorem dL_why_218 : decode cL_why 218 = .ok (.if_icmp .ne 7, 3) := by decide +kernel
theorem dL_why_221 : decode cL_why 221 = .ok (.iconst 1, 1) := by decide +kernel
theorem dL_why_222 : decode cL_why 222 = .ok (.goto 4, 3) := by decide +kernel
theorem dL_why_225 : decode cL_why 225 = .ok (.iconst 0, 1) := by decide +kernel
theorem dL_why_226 : decode cL_why 226 = .ok (.istore 9, 2) := by decide +kernel
theorem dL_why_228 : decode cL_why 228 = .ok (.iinc 11 1, 3) := by decide +kernel
theorem dL_why_231 : decode cL_why 231 = .ok (.goto (-70), 3) := by decide +kernel
theorem dL_why_234 : decode cL_why 234 = .ok (.iinc 10 1, 3) := by decide +kernel
theorem dL_why_237 : decode cL_why 237 = .ok (.goto (-97), 3) := by decide +kernel
theorem dL_why_240 : decode cL_why 240 = .ok (.iload 9, 2) := by decide +kernel
theorem dL_why_242 : decode cL_why 242 = .ok (.ifCond .eq 7, 3) := by decide +kernel
theorem dL_why_245 : decode cL_why 245 = .ok (.iconst 5, 1) := by decide +kernel
theorem dL_why_246 : decode cL_why 246 = .ok (.goto 4, 3) := by decide +kernel
theorem dL_why_249 : decode cL_why 249 = .ok (.iconst 0, 1) := by decide +kernel
theorem dL_why_250 : decode cL_why 250 = .ok (.ireturn, 1) := by decide +kernel
set_option maxRecDepth 200000 in
theorem ggL_bend_L_closed : GoodIn wsL_bend wsL_closed := goodIn_r _ [4] rfl (by decide +kernel)
set_option maxRecDepth 200000 in
theorem gL_bend_L_closed : GoodIn wsL_bend (va_wsS RL 26 yL_closed wsL_closed) := goodIn_app (goodIn_of _ (by decide +kernel)) ggL_bend_L_closed
set_option maxRecDepth 200000 in
theorem ggL_bend_L_dir : GoodIn wsL_bend wsL_dir := goodIn_r _ [7] rfl (by decide +kernel)
set_option maxRecDepth 200000 in
theorem gL_bend_L_dir : GoodIn wsL_bend (va_wsS RL 9 yL_dir wsL_dir) := goodIn_app (goodIn_of _ (by decide +kernel)) ggL_bend_L_dir
theorem dL_bend_0 : decode cL_bend 0 = .ok (.aload_n 0, 1) := by decide +kernel
theorem dL_bend_1 : decode cL_bend 1 = .ok (.iconst 4, 1) := by decide +kernel
theorem dL_bend_2 : decode cL_bend 2 = .ok (.iload_n 2, 1) := by decide +kernel
theorem dL_bend_3 : decode cL_bend 3 = .ok (.imul, 1) := by decide +kernel
theorem dL_bend_4 : decode cL_bend 4 = .ok (.iconst 2, 1) := by decide +kernel
theorem dL_bend_5 : decode cL_bend 5 = .ok (.iadd, 1) := by decide +kernel
theorem dL_bend_6 : decode cL_bend 6 = .ok (.iaload, 1) := by decide +kernel
theorem dL_bend_7 : decode cL_bend 7 = .ok (.istore 5, 2) := by decide +kernel
theorem dL_bend_9 : decode cL_bend 9 = .ok (.iload 4, 2) := by decide +kernel
theorem dL_bend_11 : decode cL_bend 11 = .ok (.ifCond .eq 10, 3) := by decide +kernel
theorem dL_bend_14 : decode cL_bend 14 = .ok (.iload 4, 2) := by decide +kernel
theorem dL_bend_16 : decode cL_bend 16 = .ok (.iload 5, 2) := by decide +kernel
theorem dL_bend_18 : decode cL_bend 18 = .ok (.if_icmp .ne 7, 3) := by decide +kernel
theorem dL_bend_21 : decode cL_bend 21 = .ok (.iconst 1, 1) := by decide +kernel
theorem dL_bend_22 : decode cL_bend 22 = .ok (.goto 4, 3) := by decide +kernel
theorem dL_bend_25 : decode cL_bend 25 = .ok (.iconst 0, 1) := by decide +kernel
theorem dL_bend_26 : decode cL_bend 26 = .ok (.istore 6, 2) := by decide +kernel
theorem dL_bend_28 : decode cL_bend 28 = .ok (.iload 6, 2) := by decide +kernel
theorem dL_bend_30 : decode cL_bend 30 = .ok (.ifCond .eq 14, 3) := by decide +kernel
theorem dL_bend_33 : decode cL_bend 33 = .ok (.aload_n 0, 1) := by decide +kernel
theorem dL_bend_34 : decode cL_bend 34 = .ok (.iload_n 2, 1) := by decide +kernel
theorem dL_bend_35 : decode cL_bend 35 = .ok (.aload_n 3, 1) := by decide +kernel
theorem dL_bend_36 : decode cL_bend 36 = .ok (.invokestatic 26, 3) := by decide +kernel
theorem dL_bend_39 : decode cL_bend 39 = .ok (.ifCond .ne 5, 3) := by decide +kernel
theorem dL_bend_42 : decode cL_bend 42 = .ok (.iconst 0, 1) := by decide +kernel
theorem dL_bend_43 : decode cL_bend 43 = .ok (.ireturn, 1) := by decide +kernel
theorem dL_bend_44 : decode cL_bend 44 = .ok (.aload_n 1, 1) := by decide +kernel
theorem dL_bend_45 : decode cL_bend 45 = .ok (.iload_n 2, 1) := by decide +kernel
theorem dL_bend_46 : decode cL_bend 46 = .ok (.iload 6, 2) := by decide +kernel
theorem dL_bend_48 : decode cL_bend 48 = .ok (.ifCond .eq 7, 3) := by decide +kernel
theorem dL_bend_51 : decode cL_bend 51 = .ok (.iconst 0, 1) := by decide +kernel
theorem dL_bend_52 : decode cL_bend 52 = .ok (.goto 5, 3) := by decide +kernel
theorem dL_bend_55 : decode cL_bend 55 = .ok (.iload 4, 2) := by decide +kernel
theorem dL_bend_57 : decode cL_bend 57 = .ok (.invokestatic 9, 3) := by decide +kernel
theorem dL_bend_60 : decode cL_bend 60 = .ok (.aload_n 1, 1) := by decide +kernel
theorem dL_bend_61 : decode cL_bend 61 = .ok (.iload_n 2, 1) := by decide +kernel
theorem dL_bend_62 : decode cL_bend 62 = .ok (.iload 6, 2) := by decide +kernel
theorem dL_bend_64 : decode cL_bend 64 = .ok (.ifCond .eq 10, 3) := by decide +kernel
theorem dL_bend_67 : decode cL_bend 67 = .ok (.iload 5, 2) := by decide +kernel
theorem dL_bend_69 : decode cL_bend 69 = .ok (.iconst 1, 1) := by decide +kernel
theorem dL_bend_70 : decode cL_bend 70 = .ok (.isub, 1) := by decide +kernel
theorem dL_bend_71 : decode cL_bend 71 = .ok (.goto 7, 3) := by decide +kernel
theorem dL_bend_74 : decode cL_bend 74 = .ok (.iload 4, 2) := by decide +kernel
theorem dL_bend_76 : decode cL_bend 76 = .ok (.iconst 1, 1) := by decide +kernel
theorem dL_bend_77 : decode cL_bend 77 = .ok (.isub, 1) := by decide +kernel
theorem dL_bend_78 : decode cL_bend 78 = .ok (.invokestatic 9, 3) := by decide +kernel
theorem dL_bend_81 : decode cL_bend 81 = .ok (.isub, 1) := by decide +kernel
theorem dL_bend_82 : decode cL_bend 82 = .ok (.bipush 7, 2) := by decide +kernel
theorem dL_bend_84 : decode cL_bend 84 = .ok (.iand, 1) := by decide +kernel
theorem dL_bend_85 : decode cL_bend 85 = .ok (.istore 7, 2) := by decide +kernel
theorem dL_bend_87 : decode cL_bend 87 = .ok (.iload 7, 2) := by decide +kernel
theorem dL_bend_89 : decode cL_bend 89 = .ok (.iconst 4, 1) := by decide +kernel
theorem dL_bend_90 : decode cL_bend 90 = .ok (.if_icmp .le 11, 3) := by decide +kernel
theorem dL_bend_93 : decode cL_bend 93 = .ok (.bipush 8, 2) := by decide +kernel
theorem dL_bend_95 : decode cL_bend 95 = .ok (.iload 7, 2) := by decide +kernel
theorem dL_bend_97 : decode cL_bend 97 = .ok (.isub, 1) := by decide +kernel
theorem dL_bend_98 : decode cL_bend 98 = .ok (.goto 5, 3) := by decide +kernel
theorem dL_bend_101 : decode cL_bend 101 = .ok (.iload 7, 2) := by decide +kernel
theorem dL_bend_103 : decode cL_bend 103 = .ok (.ireturn, 1) := by decide +kernel
theorem dL_size_0 : decode cL_size 0 = .ok (.aload_n 0, 1) := by decide +kernel
theorem dL_size_1 : decode cL_size 1 = .ok (.iconst 4, 1) := by decide +kernel
theorem dL_size_2 : decode cL_size 2 = .ok (.iload_n 1, 1) := by decide +kernel
theorem dL_size_3 : decode cL_size 3 = .ok (.imul, 1) := by decide +kernel
theorem dL_size_4 : decode cL_size 4 = .ok (.iaload, 1) := by decide +kernel
theorem dL_size_5 : decode cL_size 5 = .ok (.bipush 9, 2) := by decide +kernel
theorem dL_size_7 : decode cL_size 7 = .ok (.if_icmp .le 7, 3) := by decide +kernel
theorem dL_size_10 : decode cL_size 10 = .ok (.iconst 3, 1) := by decide +kernel
theorem dL_size_11 : decode cL_size 11 = .ok (.goto 4, 3) := by decide +kernel
theorem dL_size_14 : decode cL_size 14 = .ok (.iconst 2, 1) := by decide +kernel
theorem dL_size_15 : decode cL_size 15 = .ok (.ireturn, 1) := by decide +kernel
set_option maxRecDepth 200000 in
theorem ggL_bends_L_size : GoodIn wsL_bends wsL_size := goodIn_r _ [4] rfl (by decide +kernel)
set_option maxRecDepth 200000 in
theorem gL_bends_L_size : GoodIn wsL_bends (va_wsS RL 34 yL_size wsL_size) := goodIn_app (goodIn_of _ (by decide +kernel)) ggL_bends_L_size
set_option maxRecDepth 200000 in
theorem ggL_bends_L_closed : GoodIn wsL_bends wsL_closed := goodIn_r _ [7] rfl (by decide +kernel)
set_option maxRecDepth 200000 in
theorem gL_bends_L_closed : GoodIn wsL_bends (va_wsS RL 26 yL_closed wsL_closed) := goodIn_app (goodIn_of _ (by decide +kernel)) ggL_bends_L_closed
set_option maxRecDepth 200000 in
theorem ggL_bends_L_bend : GoodIn wsL_bends wsL_bend := goodIn_r _ [10, 5, 6, 3, 7, 11, 12, 13] rfl (by decide +kernel)
set_option maxRecDepth 200000 in
theorem gL_bends_L_bend : GoodIn wsL_bends (va_wsS RL 38 yL_bend wsL_bend) := goodIn_app (goodIn_of _ (by decide +kernel)) ggL_bends_L_bend
theorem dL_bends_0 : decode cL_bends 0 = .ok (.aload_n 0, 1) := by decide +kernel
theorem dL_bends_1 : decode cL_bends 1 = .ok (.iconst 4, 1) := by decide +kernel
theorem dL_bends_2 : decode cL_bends 2 = .ok (.iload_n 2, 1) := by decide +kernel
theorem dL_bends_3 : decode cL_bends 3 = .ok (.imul, 1) := by decide +kernel
theorem dL_bends_4 : decode cL_bends 4 = .ok (.iconst 2, 1) := by decide +kernel
theorem dL_bends_5 : decode cL_bends 5 = .ok (.iadd, 1) := by decide +kernel
theorem dL_bends_6 : decode cL_bends 6 = .ok (.iaload, 1) := by decide +kernel
theorem dL_bends_7 : decode cL_bends 7 = .ok (.istore 5, 2) := by decide +kernel
theorem dL_bends_9 : decode cL_bends 9 = .ok (.iload 4, 2) := by decide +kernel
theorem dL_bends_11 : decode cL_bends 11 = .ok (.aload_n 0, 1) := by decide +kernel
theorem dL_bends_12 : decode cL_bends 12 = .ok (.iload_n 2, 1) := by decide +kernel
theorem dL_bends_13 : decode cL_bends 13 = .ok (.invokestatic 34, 3) := by decide +kernel
theorem dL_bends_16 : decode cL_bends 16 = .ok (.iadd, 1) := by decide +kernel
theorem dL_bends_17 : decode cL_bends 17 = .ok (.iconst 1, 1) := by decide +kernel
theorem dL_bends_18 : decode cL_bends 18 = .ok (.isub, 1) := by decide +kernel
theorem dL_bends_19 : decode cL_bends 19 = .ok (.istore 6, 2) := by decide +kernel
theorem dL_bends_21 : decode cL_bends 21 = .ok (.iload 6, 2) := by decide +kernel
theorem dL_bends_23 : decode cL_bends 23 = .ok (.iload 5, 2) := by decide +kernel
theorem dL_bends_25 : decode cL_bends 25 = .ok (.if_icmp .gt 19, 3) := by decide +kernel
theorem dL_bends_28 : decode cL_bends 28 = .ok (.iload 6, 2) := by decide +kernel
theorem dL_bends_30 : decode cL_bends 30 = .ok (.iload 5, 2) := by decide +kernel
theorem dL_bends_32 : decode cL_bends 32 = .ok (.if_icmp .ne 14, 3) := by decide +kernel
theorem dL_bends_35 : decode cL_bends 35 = .ok (.aload_n 0, 1) := by decide +kernel
theorem dL_bends_36 : decode cL_bends 36 = .ok (.iload_n 2, 1) := by decide +kernel
theorem dL_bends_37 : decode cL_bends 37 = .ok (.aload_n 3, 1) := by decide +kernel
theorem dL_bends_38 : decode cL_bends 38 = .ok (.invokestatic 26, 3) := by decide +kernel
theorem dL_bends_41 : decode cL_bends 41 = .ok (.ifCond .eq 5, 3) := by decide +kernel
theorem dL_bends_44 : decode cL_bends 44 = .ok (.iconst (-1), 1) := by decide +kernel
theorem dL_bends_45 : decode cL_bends 45 = .ok (.ireturn, 1) := by decide +kernel
theorem dL_bends_46 : decode cL_bends 46 = .ok (.iload 4, 2) := by decide +kernel
theorem dL_bends_48 : decode cL_bends 48 = .ok (.ifCond .le 17, 3) := by decide +kernel
theorem dL_bends_51 : decode cL_bends 51 = .ok (.aload_n 0, 1) := by decide +kernel
theorem dL_bends_52 : decode cL_bends 52 = .ok (.aload_n 1, 1) := by decide +kernel
theorem dL_bends_53 : decode cL_bends 53 = .ok (.iload_n 2, 1) := by decide +kernel
theorem dL_bends_54 : decode cL_bends 54 = .ok (.aload_n 3, 1) := by decide +kernel
theorem dL_bends_55 : decode cL_bends 55 = .ok (.iload 4, 2) := by decide +kernel
theorem dL_bends_57 : decode cL_bends 57 = .ok (.iconst 1, 1) := by decide +kernel
theorem dL_bends_58 : decode cL_bends 58 = .ok (.isub, 1) := by decide +kernel
theorem dL_bends_59 : decode cL_bends 59 = .ok (.invokestatic 38, 3) := by decide +kernel
theorem dL_bends_62 : decode cL_bends 62 = .ok (.goto 4, 3) := by decide +kernel
theorem dL_bends_65 : decode cL_bends 65 = .ok (.iconst 0, 1) := by decide +kernel
theorem dL_bends_66 : decode cL_bends 66 = .ok (.istore 7, 2) := by decide +kernel
theorem dL_bends_68 : decode cL_bends 68 = .ok (.iload 4, 2) := by decide +kernel
theorem dL_bends_70 : decode cL_bends 70 = .ok (.istore 8, 2) := by decide +kernel
theorem dL_bends_72 : decode cL_bends 72 = .ok (.iload 8, 2) := by decide +kernel
theorem dL_bends_74 : decode cL_bends 74 = .ok (.iload 6, 2) := by decide +kernel
theorem dL_bends_76 : decode cL_bends 76 = .ok (.iconst 1, 1) := by decide +kernel
theorem dL_bends_77 : decode cL_bends 77 = .ok (.iadd, 1) := by decide +kernel
theorem dL_bends_78 : decode cL_bends 78 = .ok (.if_icmp .gt 30, 3) := by decide +kernel
theorem dL_bends_81 : decode cL_bends 81 = .ok (.iload 8, 2) := by decide +kernel
theorem dL_bends_83 : decode cL_bends 83 = .ok (.iload 5, 2) := by decide +kernel
theorem dL_bends_85 : decode cL_bends 85 = .ok (.if_icmp .gt 23, 3) := by decide +kernel
theorem dL_bends_88 : decode cL_bends 88 = .ok (.iload 7, 2) := by decide +kernel
theorem dL_bends_90 : decode cL_bends 90 = .ok (.aload_n 0, 1) := by decide +kernel
theorem dL_bends_91 : decode cL_bends 91 = .ok (.aload_n 1, 1) := by decide +kernel
theorem dL_bends_92 : decode cL_bends 92 = .ok (.iload_n 2, 1) := by decide +kernel
theorem dL_bends_93 : decode cL_bends 93 = .ok (.aload_n 3, 1) := by decide +kernel
theorem dL_bends_94 : decode cL_bends 94 = .ok (.iload 8, 2) := by decide +kernel
theorem dL_bends_96 : decode cL_bends 96 = .ok (.invokestatic 38, 3) := by decide +kernel
theorem dL_bends_99 : decode cL_bends 99 = .ok (.iadd, 1) := by decide +kernel
theorem dL_bends_100 : decode cL_bends 100 = .ok (.istore 7, 2) := by decide +kernel
theorem dL_bends_102 : decode cL_bends 102 = .ok (.iinc 8 1, 3) := by decide +kernel
theorem dL_bends_105 : decode cL_bends 105 = .ok (.goto (-33), 3) := by decide +kernel
theorem dL_bends_108 : decode cL_bends 108 = .ok (.iload 7, 2) := by decide +kernel
theorem dL_bends_110 : decode cL_bends 110 = .ok (.ireturn, 1) := by decide +kernel
theorem dL_gap_0 : decode cL_gap 0 = .ok (.iload_n 0, 1) := by decide +kernel
theorem dL_gap_1 : decode cL_gap 1 = .ok (.bipush 24, 2) := by decide +kernel
theorem dL_gap_3 : decode cL_gap 3 = .ok (.irem, 1) := by decide +kernel
theorem dL_gap_4 : decode cL_gap 4 = .ok (.iload_n 1, 1) := by decide +kernel
theorem dL_gap_5 : decode cL_gap 5 = .ok (.bipush 24, 2) := by decide +kernel
theorem dL_gap_7 : decode cL_gap 7 = .ok (.irem, 1) := by decide +kernel
theorem dL_gap_8 : decode cL_gap 8 = .ok (.isub, 1) := by decide +kernel
theorem dL_gap_9 : decode cL_gap 9 = .ok (.istore_n 2, 1) := by decide +kernel
theorem dL_gap_10 : decode cL_gap 10 = .ok (.iload_n 0, 1) := by decide +kernel
theorem dL_gap_11 : decode cL_gap 11 = .ok (.bipush 24, 2) := by decide +kernel
theorem dL_gap_13 : decode cL_gap 13 = .ok (.idiv, 1) := by decide +kernel
theorem dL_gap_14 : decode cL_gap 14 = .ok (.iload_n 1, 1) := by decide +kernel
theorem dL_gap_15 : decode cL_gap 15 = .ok (.bipush 24, 2) := by decide +kernel
theorem dL_gap_17 : decode cL_gap 17 = .ok (.idiv, 1) := by decide +kernel
theorem dL_gap_18 : decode cL_gap 18 = .ok (.isub, 1) := by decide +kernel
theorem dL_gap_19 : decode cL_gap 19 = .ok (.istore_n 3, 1) := by decide +kernel
theorem dL_gap_20 : decode cL_gap 20 = .ok (.iload_n 2, 1) := by decide +kernel
theorem dL_gap_21 : decode cL_gap 21 = .ok (.ifCond .ge 8, 3) := by decide +kernel
theorem dL_gap_24 : decode cL_gap 24 = .ok (.iload_n 2, 1) := by decide +kernel
theorem dL_gap_25 : decode cL_gap 25 = .ok (.ineg, 1) := by decide +kernel
theorem dL_gap_26 : decode cL_gap 26 = .ok (.goto 4, 3) := by decide +kernel
theorem dL_gap_29 : decode cL_gap 29 = .ok (.iload_n 2, 1) := by decide +kernel
theorem dL_gap_30 : decode cL_gap 30 = .ok (.istore_n 2, 1) := by decide +kernel
theorem dL_gap_31 : decode cL_gap 31 = .ok (.iload_n 3, 1) := by decide +kernel
theorem dL_gap_32 : decode cL_gap 32 = .ok (.ifCond .ge 8, 3) := by decide +kernel
theorem dL_gap_35 : decode cL_gap 35 = .ok (.iload_n 3, 1) := by decide +kernel
theorem dL_gap_36 : decode cL_gap 36 = .ok (.ineg, 1) := by decide +kernel
theorem dL_gap_37 : decode cL_gap 37 = .ok (.goto 4, 3) := by decide +kernel
theorem dL_gap_40 : decode cL_gap 40 = .ok (.iload_n 3, 1) := by decide +kernel
theorem dL_gap_41 : decode cL_gap 41 = .ok (.istore_n 3, 1) := by decide +kernel
theorem dL_gap_42 : decode cL_gap 42 = .ok (.iload_n 2, 1) := by decide +kernel
theorem dL_gap_43 : decode cL_gap 43 = .ok (.iload_n 3, 1) := by decide +kernel
theorem dL_gap_44 : decode cL_gap 44 = .ok (.if_icmp .ge 7, 3) := by decide +kernel
theorem dL_gap_47 : decode cL_gap 47 = .ok (.iload_n 3, 1) := by decide +kernel
theorem dL_gap_48 : decode cL_gap 48 = .ok (.goto 4, 3) := by decide +kernel
theorem dL_gap_51 : decode cL_gap 51 = .ok (.iload_n 2, 1) := by decide +kernel
theorem dL_gap_52 : decode cL_gap 52 = .ok (.ireturn, 1) := by decide +kernel
set_option maxRecDepth 200000 in
theorem ggL_far_L_walks : GoodIn wsL_far wsL_walks := goodIn_r _ [5, 6, 7, 4, 8, 9, 10, 11, 12, 13, 14] rfl (by decide +kernel)
set_option maxRecDepth 200000 in
theorem gL_far_L_walks : GoodIn wsL_far (va_wsS RL 22 yL_walks wsL_walks) := goodIn_app (goodIn_of _ (by decide +kernel)) ggL_far_L_walks
set_option maxRecDepth 200000 in
theorem ggL_far_L_size : GoodIn wsL_far wsL_size := goodIn_r _ [17] rfl (by decide +kernel)
set_option maxRecDepth 200000 in
theorem gL_far_L_size : GoodIn wsL_far (va_wsS RL 34 yL_size wsL_size) := goodIn_app (goodIn_of _ (by decide +kernel)) ggL_far_L_size
set_option maxRecDepth 200000 in
theorem ggL_far_L_gap : GoodIn wsL_far wsL_gap := goodIn_r _ [20] rfl (by decide +kernel)
set_option maxRecDepth 200000 in
theorem gL_far_L_gap : GoodIn wsL_far (va_wsS RL 42 yL_gap wsL_gap) := goodIn_app (goodIn_of _ (by decide +kernel)) ggL_far_L_gap
theorem dL_far_0 : decode cL_far 0 = .ok (.bipush 61, 2) := by decide +kernel
theorem dL_far_2 : decode cL_far 2 = .ok (.newarray .int, 2) := by decide +kernel
theorem dL_far_4 : decode cL_far 4 = .ok (.astore 6, 2) := by decide +kernel
theorem dL_far_6 : decode cL_far 6 = .ok (.aload_n 0, 1) := by decide +kernel
theorem dL_far_7 : decode cL_far 7 = .ok (.aload_n 1, 1) := by decide +kernel
theorem dL_far_8 : decode cL_far 8 = .ok (.iload 5, 2) := by decide +kernel
theorem dL_far_10 : decode cL_far 10 = .ok (.aload 6, 2) := by decide +kernel
theorem dL_far_12 : decode cL_far 12 = .ok (.invokestatic 22, 3) := by decide +kernel
theorem dL_far_15 : decode cL_far 15 = .ok (.bipush 99, 2) := by decide +kernel
theorem dL_far_17 : decode cL_far 17 = .ok (.istore 7, 2) := by decide +kernel
theorem dL_far_19 : decode cL_far 19 = .ok (.iconst 0, 1) := by decide +kernel
theorem dL_far_20 : decode cL_far 20 = .ok (.istore 8, 2) := by decide +kernel
theorem dL_far_22 : decode cL_far 22 = .ok (.iload 8, 2) := by decide +kernel
theorem dL_far_24 : decode cL_far 24 = .ok (.aload_n 0, 1) := by decide +kernel
theorem dL_far_25 : decode cL_far 25 = .ok (.iload_n 2, 1) := by decide +kernel
theorem dL_far_26 : decode cL_far 26 = .ok (.invokestatic 34, 3) := by decide +kernel
theorem dL_far_29 : decode cL_far 29 = .ok (.if_icmp .ge 71, 3) := by decide +kernel
theorem dL_far_32 : decode cL_far 32 = .ok (.iconst 0, 1) := by decide +kernel
theorem dL_far_33 : decode cL_far 33 = .ok (.istore 9, 2) := by decide +kernel
theorem dL_far_35 : decode cL_far 35 = .ok (.iload 9, 2) := by decide +kernel
theorem dL_far_37 : decode cL_far 37 = .ok (.aload_n 0, 1) := by decide +kernel
theorem dL_far_38 : decode cL_far 38 = .ok (.iload 5, 2) := by decide +kernel
theorem dL_far_40 : decode cL_far 40 = .ok (.invokestatic 34, 3) := by decide +kernel
theorem dL_far_43 : decode cL_far 43 = .ok (.if_icmp .ge 51, 3) := by decide +kernel
theorem dL_far_46 : decode cL_far 46 = .ok (.aload_n 3, 1) := by decide +kernel
theorem dL_far_47 : decode cL_far 47 = .ok (.iload 4, 2) := by decide +kernel
theorem dL_far_49 : decode cL_far 49 = .ok (.iload 8, 2) := by decide +kernel
theorem dL_far_51 : decode cL_far 51 = .ok (.iadd, 1) := by decide +kernel
theorem dL_far_52 : decode cL_far 52 = .ok (.iaload, 1) := by decide +kernel
theorem dL_far_53 : decode cL_far 53 = .ok (.aload 6, 2) := by decide +kernel
theorem dL_far_55 : decode cL_far 55 = .ok (.aload_n 0, 1) := by decide +kernel
theorem dL_far_56 : decode cL_far 56 = .ok (.iconst 4, 1) := by decide +kernel
theorem dL_far_57 : decode cL_far 57 = .ok (.iload 5, 2) := by decide +kernel
theorem dL_far_59 : decode cL_far 59 = .ok (.imul, 1) := by decide +kernel
theorem dL_far_60 : decode cL_far 60 = .ok (.iconst 3, 1) := by decide +kernel
theorem dL_far_61 : decode cL_far 61 = .ok (.iadd, 1) := by decide +kernel
theorem dL_far_62 : decode cL_far 62 = .ok (.iaload, 1) := by decide +kernel
theorem dL_far_63 : decode cL_far 63 = .ok (.iload 9, 2) := by decide +kernel
theorem dL_far_65 : decode cL_far 65 = .ok (.iadd, 1) := by decide +kernel
theorem dL_far_66 : decode cL_far 66 = .ok (.iaload, 1) := by decide +kernel
theorem dL_far_67 : decode cL_far 67 = .ok (.invokestatic 42, 3) := by decide +kernel
theorem dL_far_70 : decode cL_far 70 = .ok (.istore 10, 2) := by decide +kernel
theorem dL_far_72 : decode cL_far 72 = .ok (.iload 10, 2) := by decide +kernel
theorem dL_far_74 : decode cL_far 74 = .ok (.iload 7, 2) := by decide +kernel
theorem dL_far_76 : decode cL_far 76 = .ok (.if_icmp .ge 8, 3) := by decide +kernel
theorem dL_far_79 : decode cL_far 79 = .ok (.iload 10, 2) := by decide +kernel
theorem dL_far_81 : decode cL_far 81 = .ok (.goto 5, 3) := by decide +kernel
theorem dL_far_84 : decode cL_far 84 = .ok (.iload 7, 2) := by decide +kernel
theorem dL_far_86 : decode cL_far 86 = .ok (.istore 7, 2) := by decide +kernel
theorem dL_far_88 : decode cL_far 88 = .ok (.iinc 9 1, 3) := by decide +kernel
theorem dL_far_91 : decode cL_far 91 = .ok (.goto (-56), 3) := by decide +kernel
theorem dL_far_94 : decode cL_far 94 = .ok (.iinc 8 1, 3) := by decide +kernel
theorem dL_far_97 : decode cL_far 97 = .ok (.goto (-75), 3) := by decide +kernel
theorem dL_far_100 : decode cL_far 100 = .ok (.iload 7, 2) := by decide +kernel
theorem dL_far_102 : decode cL_far 102 = .ok (.ireturn, 1) := by decide +kernel
set_option maxRecDepth 200000 in
theorem ggL_free_L_far : GoodIn wsL_free wsL_far := goodIn_r _ [4, 5, 6, 7, 3, 8, 9, 10, 11, 12, 13, 14, 15, 16, 17, 18, 19, 20, 21, 22, 23] rfl (by decide +kernel)
set_option maxRecDepth 200000 in
theorem gL_free_L_far : GoodIn wsL_free (va_wsS RL 46 yL_far wsL_far) := goodIn_app (goodIn_of _ (by decide +kernel)) ggL_free_L_far
theorem dL_free_0 : decode cL_free 0 = .ok (.bipush 99, 2) := by decide +kernel
theorem dL_free_2 : decode cL_free 2 = .ok (.istore 5, 2) := by decide +kernel
theorem dL_free_4 : decode cL_free 4 = .ok (.iconst 0, 1) := by decide +kernel
theorem dL_free_5 : decode cL_free 5 = .ok (.istore 6, 2) := by decide +kernel
theorem dL_free_7 : decode cL_free 7 = .ok (.iload 6, 2) := by decide +kernel
theorem dL_free_9 : decode cL_free 9 = .ok (.aload_n 0, 1) := by decide +kernel
theorem dL_free_10 : decode cL_free 10 = .ok (.bipush 32, 2) := by decide +kernel
theorem dL_free_12 : decode cL_free 12 = .ok (.iaload, 1) := by decide +kernel
theorem dL_free_13 : decode cL_free 13 = .ok (.if_icmp .ge 60, 3) := by decide +kernel
theorem dL_free_16 : decode cL_free 16 = .ok (.iload 6, 2) := by decide +kernel
theorem dL_free_18 : decode cL_free 18 = .ok (.iload_n 2, 1) := by decide +kernel
theorem dL_free_19 : decode cL_free 19 = .ok (.if_icmp .eq 14, 3) := by decide +kernel
theorem dL_free_22 : decode cL_free 22 = .ok (.aload_n 0, 1) := by decide +kernel
theorem dL_free_23 : decode cL_free 23 = .ok (.iconst 4, 1) := by decide +kernel
theorem dL_free_24 : decode cL_free 24 = .ok (.iload 6, 2) := by decide +kernel
theorem dL_free_26 : decode cL_free 26 = .ok (.imul, 1) := by decide +kernel
theorem dL_free_27 : decode cL_free 27 = .ok (.iconst 3, 1) := by decide +kernel
theorem dL_free_28 : decode cL_free 28 = .ok (.iadd, 1) := by decide +kernel
theorem dL_free_29 : decode cL_free 29 = .ok (.iaload, 1) := by decide +kernel
theorem dL_free_30 : decode cL_free 30 = .ok (.ifCond .ge 8, 3) := by decide +kernel
theorem dL_free_33 : decode cL_free 33 = .ok (.bipush 99, 2) := by decide +kernel
theorem dL_free_35 : decode cL_free 35 = .ok (.goto 14, 3) := by decide +kernel
theorem dL_free_38 : decode cL_free 38 = .ok (.aload_n 0, 1) := by decide +kernel
theorem dL_free_39 : decode cL_free 39 = .ok (.aload_n 1, 1) := by decide +kernel
theorem dL_free_40 : decode cL_free 40 = .ok (.iload_n 2, 1) := by decide +kernel
theorem dL_free_41 : decode cL_free 41 = .ok (.aload_n 3, 1) := by decide +kernel
theorem dL_free_42 : decode cL_free 42 = .ok (.iload 4, 2) := by decide +kernel
theorem dL_free_44 : decode cL_free 44 = .ok (.iload 6, 2) := by decide +kernel
theorem dL_free_46 : decode cL_free 46 = .ok (.invokestatic 46, 3) := by decide +kernel
theorem dL_free_49 : decode cL_free 49 = .ok (.istore 7, 2) := by decide +kernel
theorem dL_free_51 : decode cL_free 51 = .ok (.iload 7, 2) := by decide +kernel
theorem dL_free_53 : decode cL_free 53 = .ok (.iload 5, 2) := by decide +kernel
theorem dL_free_55 : decode cL_free 55 = .ok (.if_icmp .ge 8, 3) := by decide +kernel
theorem dL_free_58 : decode cL_free 58 = .ok (.iload 7, 2) := by decide +kernel
theorem dL_free_60 : decode cL_free 60 = .ok (.goto 5, 3) := by decide +kernel
theorem dL_free_63 : decode cL_free 63 = .ok (.iload 5, 2) := by decide +kernel
theorem dL_free_65 : decode cL_free 65 = .ok (.istore 5, 2) := by decide +kernel
theorem dL_free_67 : decode cL_free 67 = .ok (.iinc 6 1, 3) := by decide +kernel
theorem dL_free_70 : decode cL_free 70 = .ok (.goto (-63), 3) := by decide +kernel
theorem dL_free_73 : decode cL_free 73 = .ok (.iload 5, 2) := by decide +kernel
theorem dL_free_75 : decode cL_free 75 = .ok (.ireturn, 1) := by decide +kernel
set_option maxRecDepth 200000 in
theorem ggL_against_L_bends : GoodIn wsL_against wsL_bends := goodIn_r _ [4, 5, 6, 3, 7, 8, 9, 10, 11, 12, 13, 14, 15, 16] rfl (by decide +kernel)
set_option maxRecDepth 200000 in
theorem gL_against_L_bends : GoodIn wsL_against (va_wsS RL 50 yL_bends wsL_bends) := goodIn_app (goodIn_of _ (by decide +kernel)) ggL_against_L_bends
set_option maxRecDepth 200000 in
theorem ggL_against_L_size : GoodIn wsL_against wsL_size := goodIn_r _ [7] rfl (by decide +kernel)
set_option maxRecDepth 200000 in
theorem gL_against_L_size : GoodIn wsL_against (va_wsS RL 34 yL_size wsL_size) := goodIn_app (goodIn_of _ (by decide +kernel)) ggL_against_L_size
set_option maxRecDepth 200000 in
theorem ggL_against_L_free : GoodIn wsL_against wsL_free := goodIn_r _ [19, 20, 21, 3, 22, 23, 24, 25, 26, 14, 15, 16, 27, 28, 29, 30, 31, 32, 5, 6, 7, 33, 34, 35] rfl (by decide +kernel)
set_option maxRecDepth 200000 in
theorem gL_against_L_free : GoodIn wsL_against (va_wsS RL 53 yL_free wsL_free) := goodIn_app (goodIn_of _ (by decide +kernel)) ggL_against_L_free
theorem dL_against_0 : decode cL_against 0 = .ok (.aload_n 0, 1) := by decide +kernel
theorem dL_against_1 : decode cL_against 1 = .ok (.aload_n 1, 1) := by decide +kernel
theorem dL_against_2 : decode cL_against 2 = .ok (.iload_n 2, 1) := by decide +kernel
theorem dL_against_3 : decode cL_against 3 = .ok (.aload_n 3, 1) := by decide +kernel
theorem dL_against_4 : decode cL_against 4 = .ok (.iload 4, 2) := by decide +kernel
theorem dL_against_6 : decode cL_against 6 = .ok (.invokestatic 50, 3) := by decide +kernel
theorem dL_against_9 : decode cL_against 9 = .ok (.istore 5, 2) := by decide +kernel
theorem dL_against_11 : decode cL_against 11 = .ok (.iload 5, 2) := by decide +kernel
theorem dL_against_13 : decode cL_against 13 = .ok (.ifCond .lt 9, 3) := by decide +kernel
theorem dL_against_16 : decode cL_against 16 = .ok (.iload 5, 2) := by decide +kernel
theorem dL_against_18 : decode cL_against 18 = .ok (.iconst 1, 1) := by decide +kernel
theorem dL_against_19 : decode cL_against 19 = .ok (.if_icmp .le 14, 3) := by decide +kernel
theorem dL_against_22 : decode cL_against 22 = .ok (.iload 5, 2) := by decide +kernel
theorem dL_against_24 : decode cL_against 24 = .ok (.ifCond .ge 7, 3) := by decide +kernel
theorem dL_against_27 : decode cL_against 27 = .ok (.iconst 1, 1) := by decide +kernel
theorem dL_against_28 : decode cL_against 28 = .ok (.goto 4, 3) := by decide +kernel
theorem dL_against_31 : decode cL_against 31 = .ok (.iconst 2, 1) := by decide +kernel
theorem dL_against_32 : decode cL_against 32 = .ok (.ireturn, 1) := by decide +kernel
theorem dL_against_33 : decode cL_against 33 = .ok (.aload_n 3, 1) := by decide +kernel
theorem dL_against_34 : decode cL_against 34 = .ok (.iload 4, 2) := by decide +kernel
theorem dL_against_36 : decode cL_against 36 = .ok (.iaload, 1) := by decide +kernel
theorem dL_against_37 : decode cL_against 37 = .ok (.istore 6, 2) := by decide +kernel
theorem dL_against_39 : decode cL_against 39 = .ok (.aload_n 3, 1) := by decide +kernel
theorem dL_against_40 : decode cL_against 40 = .ok (.iload 4, 2) := by decide +kernel
theorem dL_against_42 : decode cL_against 42 = .ok (.aload_n 0, 1) := by decide +kernel
theorem dL_against_43 : decode cL_against 43 = .ok (.iload_n 2, 1) := by decide +kernel
theorem dL_against_44 : decode cL_against 44 = .ok (.invokestatic 34, 3) := by decide +kernel
theorem dL_against_47 : decode cL_against 47 = .ok (.iadd, 1) := by decide +kernel
theorem dL_against_48 : decode cL_against 48 = .ok (.iconst 1, 1) := by decide +kernel
theorem dL_against_49 : decode cL_against 49 = .ok (.isub, 1) := by decide +kernel
theorem dL_against_50 : decode cL_against 50 = .ok (.iaload, 1) := by decide +kernel
theorem dL_against_51 : decode cL_against 51 = .ok (.istore 7, 2) := by decide +kernel
theorem dL_against_53 : decode cL_against 53 = .ok (.iload 6, 2) := by decide +kernel
theorem dL_against_55 : decode cL_against 55 = .ok (.bipush 24, 2) := by decide +kernel
theorem dL_against_57 : decode cL_against 57 = .ok (.idiv, 1) := by decide +kernel
theorem dL_against_58 : decode cL_against 58 = .ok (.iload 7, 2) := by decide +kernel
theorem dL_against_60 : decode cL_against 60 = .ok (.bipush 24, 2) := by decide +kernel
theorem dL_against_62 : decode cL_against 62 = .ok (.idiv, 1) := by decide +kernel
theorem dL_against_63 : decode cL_against 63 = .ok (.isub, 1) := by decide +kernel
theorem dL_against_64 : decode cL_against 64 = .ok (.istore 8, 2) := by decide +kernel
theorem dL_against_66 : decode cL_against 66 = .ok (.iload 6, 2) := by decide +kernel
theorem dL_against_68 : decode cL_against 68 = .ok (.bipush 24, 2) := by decide +kernel
theorem dL_against_70 : decode cL_against 70 = .ok (.irem, 1) := by decide +kernel
theorem dL_against_71 : decode cL_against 71 = .ok (.iload 7, 2) := by decide +kernel
theorem dL_against_73 : decode cL_against 73 = .ok (.bipush 24, 2) := by decide +kernel
theorem dL_against_75 : decode cL_against 75 = .ok (.irem, 1) := by decide +kernel
theorem dL_against_76 : decode cL_against 76 = .ok (.isub, 1) := by decide +kernel
theorem dL_against_77 : decode cL_against 77 = .ok (.istore 9, 2) := by decide +kernel
theorem dL_against_79 : decode cL_against 79 = .ok (.iload 8, 2) := by decide +kernel
theorem dL_against_81 : decode cL_against 81 = .ok (.iload 8, 2) := by decide +kernel
theorem dL_against_83 : decode cL_against 83 = .ok (.imul, 1) := by decide +kernel
theorem dL_against_84 : decode cL_against 84 = .ok (.iload 9, 2) := by decide +kernel
theorem dL_against_86 : decode cL_against 86 = .ok (.iload 9, 2) := by decide +kernel
