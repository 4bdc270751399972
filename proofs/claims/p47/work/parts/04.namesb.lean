theorem dX4_copyFrom_26 : decode cX4_copyFrom 26 = .ok (.bipush 8, 2) := by decide +kernel
theorem dX4_copyFrom_28 : decode cX4_copyFrom 28 = .ok (.invokestatic 31, 3) := by decide +kernel
theorem dX4_copyFrom_31 : decode cX4_copyFrom 31 = .ok (.aload_n 1, 1) := by decide +kernel
theorem dX4_copyFrom_32 : decode cX4_copyFrom 32 = .ok (.getfield 19, 3) := by decide +kernel
theorem dX4_copyFrom_35 : decode cX4_copyFrom 35 = .ok (.iconst 0, 1) := by decide +kernel
theorem dX4_copyFrom_36 : decode cX4_copyFrom 36 = .ok (.aload_n 0, 1) := by decide +kernel
theorem dX4_copyFrom_37 : decode cX4_copyFrom 37 = .ok (.getfield 19, 3) := by decide +kernel
theorem dX4_copyFrom_40 : decode cX4_copyFrom 40 = .ok (.iconst 0, 1) := by decide +kernel
theorem dX4_copyFrom_41 : decode cX4_copyFrom 41 = .ok (.bipush 8, 2) := by decide +kernel
theorem dX4_copyFrom_43 : decode cX4_copyFrom 43 = .ok (.invokestatic 31, 3) := by decide +kernel
theorem dX4_copyFrom_46 : decode cX4_copyFrom 46 = .ok (.aload_n 1, 1) := by decide +kernel
theorem dX4_copyFrom_47 : decode cX4_copyFrom 47 = .ok (.getfield 22, 3) := by decide +kernel
theorem dX4_copyFrom_50 : decode cX4_copyFrom 50 = .ok (.iconst 0, 1) := by decide +kernel
theorem dX4_copyFrom_51 : decode cX4_copyFrom 51 = .ok (.aload_n 0, 1) := by decide +kernel
theorem dX4_copyFrom_52 : decode cX4_copyFrom 52 = .ok (.getfield 22, 3) := by decide +kernel
theorem dX4_copyFrom_55 : decode cX4_copyFrom 55 = .ok (.iconst 0, 1) := by decide +kernel
theorem dX4_copyFrom_56 : decode cX4_copyFrom 56 = .ok (.bipush 8, 2) := by decide +kernel
theorem dX4_copyFrom_58 : decode cX4_copyFrom 58 = .ok (.invokestatic 31, 3) := by decide +kernel
theorem dX4_copyFrom_61 : decode cX4_copyFrom 61 = .ok (.aload_n 1, 1) := by decide +kernel
theorem dX4_copyFrom_62 : decode cX4_copyFrom 62 = .ok (.getfield 25, 3) := by decide +kernel
theorem dX4_copyFrom_65 : decode cX4_copyFrom 65 = .ok (.iconst 0, 1) := by decide +kernel
theorem dX4_copyFrom_66 : decode cX4_copyFrom 66 = .ok (.aload_n 0, 1) := by decide +kernel
theorem dX4_copyFrom_67 : decode cX4_copyFrom 67 = .ok (.getfield 25, 3) := by decide +kernel
theorem dX4_copyFrom_70 : decode cX4_copyFrom 70 = .ok (.iconst 0, 1) := by decide +kernel
theorem dX4_copyFrom_71 : decode cX4_copyFrom 71 = .ok (.sipush 488, 3) := by decide +kernel
theorem dX4_copyFrom_74 : decode cX4_copyFrom 74 = .ok (.invokestatic 31, 3) := by decide +kernel
theorem dX4_copyFrom_77 : decode cX4_copyFrom 77 = .ok (.return_, 1) := by decide +kernel
theorem dX4_lineCount_0 : decode cX4_lineCount 0 = .ok (.aload_n 0, 1) := by decide +kernel
theorem dX4_lineCount_1 : decode cX4_lineCount 1 = .ok (.getfield 28, 3) := by decide +kernel
theorem dX4_lineCount_4 : decode cX4_lineCount 4 = .ok (.ireturn, 1) := by decide +kernel
theorem dX4_gapWidth_0 : decode cX4_gapWidth 0 = .ok (.aload_n 0, 1) := by decide +kernel
theorem dX4_gapWidth_1 : decode cX4_gapWidth 1 = .ok (.getfield 9, 3) := by decide +kernel
theorem dX4_gapWidth_4 : decode cX4_gapWidth 4 = .ok (.ireturn, 1) := by decide +kernel
theorem dX4_putGap_0 : decode cX4_putGap 0 = .ok (.aload_n 0, 1) := by decide +kernel
theorem dX4_putGap_1 : decode cX4_putGap 1 = .ok (.iload_n 1, 1) := by decide +kernel
theorem dX4_putGap_2 : decode cX4_putGap 2 = .ok (.putfield 9, 3) := by decide +kernel
theorem dX4_putGap_5 : decode cX4_putGap 5 = .ok (.return_, 1) := by decide +kernel
theorem dX4_hasLine_0 : decode cX4_hasLine 0 = .ok (.iload_n 1, 1) := by decide +kernel
theorem dX4_hasLine_1 : decode cX4_hasLine 1 = .ok (.ifCond .lt 15, 3) := by decide +kernel
theorem dX4_hasLine_4 : decode cX4_hasLine 4 = .ok (.iload_n 1, 1) := by decide +kernel
theorem dX4_hasLine_5 : decode cX4_hasLine 5 = .ok (.aload_n 0, 1) := by decide +kernel
theorem dX4_hasLine_6 : decode cX4_hasLine 6 = .ok (.getfield 28, 3) := by decide +kernel
theorem dX4_hasLine_9 : decode cX4_hasLine 9 = .ok (.if_icmp .ge 7, 3) := by decide +kernel
theorem dX4_hasLine_12 : decode cX4_hasLine 12 = .ok (.iconst 1, 1) := by decide +kernel
theorem dX4_hasLine_13 : decode cX4_hasLine 13 = .ok (.goto 4, 3) := by decide +kernel
theorem dX4_hasLine_16 : decode cX4_hasLine 16 = .ok (.iconst 0, 1) := by decide +kernel
theorem dX4_hasLine_17 : decode cX4_hasLine 17 = .ok (.ireturn, 1) := by decide +kernel
theorem dX4_hasNumber_0 : decode cX4_hasNumber 0 = .ok (.iload_n 1, 1) := by decide +kernel
theorem dX4_hasNumber_1 : decode cX4_hasNumber 1 = .ok (.ifCond .lt 29, 3) := by decide +kernel
theorem dX4_hasNumber_4 : decode cX4_hasNumber 4 = .ok (.iload_n 1, 1) := by decide +kernel
theorem dX4_hasNumber_5 : decode cX4_hasNumber 5 = .ok (.aload_n 0, 1) := by decide +kernel
theorem dX4_hasNumber_6 : decode cX4_hasNumber 6 = .ok (.getfield 28, 3) := by decide +kernel
theorem dX4_hasNumber_9 : decode cX4_hasNumber 9 = .ok (.if_icmp .ge 21, 3) := by decide +kernel
theorem dX4_hasNumber_12 : decode cX4_hasNumber 12 = .ok (.iload_n 2, 1) := by decide +kernel
theorem dX4_hasNumber_13 : decode cX4_hasNumber 13 = .ok (.ifCond .lt 17, 3) := by decide +kernel
theorem dX4_hasNumber_16 : decode cX4_hasNumber 16 = .ok (.iload_n 2, 1) := by decide +kernel
theorem dX4_hasNumber_17 : decode cX4_hasNumber 17 = .ok (.aload_n 0, 1) := by decide +kernel
theorem dX4_hasNumber_18 : decode cX4_hasNumber 18 = .ok (.getfield 19, 3) := by decide +kernel
theorem dX4_hasNumber_21 : decode cX4_hasNumber 21 = .ok (.iload_n 1, 1) := by decide +kernel
theorem dX4_hasNumber_22 : decode cX4_hasNumber 22 = .ok (.iaload, 1) := by decide +kernel
theorem dX4_hasNumber_23 : decode cX4_hasNumber 23 = .ok (.if_icmp .gt 7, 3) := by decide +kernel
theorem dX4_hasNumber_26 : decode cX4_hasNumber 26 = .ok (.iconst 1, 1) := by decide +kernel
theorem dX4_hasNumber_27 : decode cX4_hasNumber 27 = .ok (.goto 4, 3) := by decide +kernel
theorem dX4_hasNumber_30 : decode cX4_hasNumber 30 = .ok (.iconst 0, 1) := by decide +kernel
theorem dX4_hasNumber_31 : decode cX4_hasNumber 31 = .ok (.ireturn, 1) := by decide +kernel
theorem dX4_levelIn_0 : decode cX4_levelIn 0 = .ok (.iload_n 1, 1) := by decide +kernel
theorem dX4_levelIn_1 : decode cX4_levelIn 1 = .ok (.ifCond .lt 20, 3) := by decide +kernel
theorem dX4_levelIn_4 : decode cX4_levelIn 4 = .ok (.iload_n 1, 1) := by decide +kernel
theorem dX4_levelIn_5 : decode cX4_levelIn 5 = .ok (.aload_n 0, 1) := by decide +kernel
theorem dX4_levelIn_6 : decode cX4_levelIn 6 = .ok (.getfield 28, 3) := by decide +kernel
theorem dX4_levelIn_9 : decode cX4_levelIn 9 = .ok (.if_icmp .ge 12, 3) := by decide +kernel
theorem dX4_levelIn_12 : decode cX4_levelIn 12 = .ok (.aload_n 0, 1) := by decide +kernel
theorem dX4_levelIn_13 : decode cX4_levelIn 13 = .ok (.getfield 15, 3) := by decide +kernel
theorem dX4_levelIn_16 : decode cX4_levelIn 16 = .ok (.iload_n 1, 1) := by decide +kernel
theorem dX4_levelIn_17 : decode cX4_levelIn 17 = .ok (.iaload, 1) := by decide +kernel
theorem dX4_levelIn_18 : decode cX4_levelIn 18 = .ok (.goto 4, 3) := by decide +kernel
theorem dX4_levelIn_21 : decode cX4_levelIn 21 = .ok (.iconst (-1), 1) := by decide +kernel
theorem dX4_levelIn_22 : decode cX4_levelIn 22 = .ok (.ireturn, 1) := by decide +kernel
theorem dX4_sizeIn_0 : decode cX4_sizeIn 0 = .ok (.iload_n 1, 1) := by decide +kernel
theorem dX4_sizeIn_1 : decode cX4_sizeIn 1 = .ok (.ifCond .lt 26, 3) := by decide +kernel
theorem dX4_sizeIn_4 : decode cX4_sizeIn 4 = .ok (.iload_n 1, 1) := by decide +kernel
theorem dX4_sizeIn_5 : decode cX4_sizeIn 5 = .ok (.aload_n 0, 1) := by decide +kernel
theorem dX4_sizeIn_6 : decode cX4_sizeIn 6 = .ok (.getfield 28, 3) := by decide +kernel
theorem dX4_sizeIn_9 : decode cX4_sizeIn 9 = .ok (.if_icmp .ge 18, 3) := by decide +kernel
theorem dX4_sizeIn_12 : decode cX4_sizeIn 12 = .ok (.aload_n 0, 1) := by decide +kernel
theorem dX4_sizeIn_13 : decode cX4_sizeIn 13 = .ok (.getfield 15, 3) := by decide +kernel
theorem dX4_sizeIn_16 : decode cX4_sizeIn 16 = .ok (.iload_n 1, 1) := by decide +kernel
theorem dX4_sizeIn_17 : decode cX4_sizeIn 17 = .ok (.iaload, 1) := by decide +kernel
theorem dX4_sizeIn_18 : decode cX4_sizeIn 18 = .ok (.bipush 10, 2) := by decide +kernel
theorem dX4_sizeIn_20 : decode cX4_sizeIn 20 = .ok (.if_icmp .lt 7, 3) := by decide +kernel
theorem dX4_sizeIn_23 : decode cX4_sizeIn 23 = .ok (.iconst 3, 1) := by decide +kernel
theorem dX4_sizeIn_24 : decode cX4_sizeIn 24 = .ok (.goto 4, 3) := by decide +kernel
theorem dX4_sizeIn_27 : decode cX4_sizeIn 27 = .ok (.iconst 2, 1) := by decide +kernel
theorem dX4_sizeIn_28 : decode cX4_sizeIn 28 = .ok (.ireturn, 1) := by decide +kernel
theorem dX4_putLevel_0 : decode cX4_putLevel 0 = .ok (.iload_n 1, 1) := by decide +kernel
theorem dX4_putLevel_1 : decode cX4_putLevel 1 = .ok (.ifCond .lt 18, 3) := by decide +kernel
theorem dX4_putLevel_4 : decode cX4_putLevel 4 = .ok (.iload_n 1, 1) := by decide +kernel
theorem dX4_putLevel_5 : decode cX4_putLevel 5 = .ok (.aload_n 0, 1) := by decide +kernel
theorem dX4_putLevel_6 : decode cX4_putLevel 6 = .ok (.getfield 28, 3) := by decide +kernel
theorem dX4_putLevel_9 : decode cX4_putLevel 9 = .ok (.if_icmp .ge 10, 3) := by decide +kernel
theorem dX4_putLevel_12 : decode cX4_putLevel 12 = .ok (.aload_n 0, 1) := by decide +kernel
theorem dX4_putLevel_13 : decode cX4_putLevel 13 = .ok (.getfield 15, 3) := by decide +kernel
theorem dX4_putLevel_16 : decode cX4_putLevel 16 = .ok (.iload_n 1, 1) := by decide +kernel
theorem dX4_putLevel_17 : decode cX4_putLevel 17 = .ok (.iload_n 2, 1) := by decide +kernel
theorem dX4_putLevel_18 : decode cX4_putLevel 18 = .ok (.iastore, 1) := by decide +kernel
theorem dX4_putLevel_19 : decode cX4_putLevel 19 = .ok (.return_, 1) := by decide +kernel
theorem dX4_labelIn_0 : decode cX4_labelIn 0 = .ok (.iload_n 1, 1) := by decide +kernel
theorem dX4_labelIn_1 : decode cX4_labelIn 1 = .ok (.ifCond .lt 20, 3) := by decide +kernel
theorem dX4_labelIn_4 : decode cX4_labelIn 4 = .ok (.iload_n 1, 1) := by decide +kernel
theorem dX4_labelIn_5 : decode cX4_labelIn 5 = .ok (.aload_n 0, 1) := by decide +kernel
theorem dX4_labelIn_6 : decode cX4_labelIn 6 = .ok (.getfield 28, 3) := by decide +kernel
theorem dX4_labelIn_9 : decode cX4_labelIn 9 = .ok (.if_icmp .ge 12, 3) := by decide +kernel
theorem dX4_labelIn_12 : decode cX4_labelIn 12 = .ok (.aload_n 0, 1) := by decide +kernel
theorem dX4_labelIn_13 : decode cX4_labelIn 13 = .ok (.getfield 22, 3) := by decide +kernel
theorem dX4_labelIn_16 : decode cX4_labelIn 16 = .ok (.iload_n 1, 1) := by decide +kernel
theorem dX4_labelIn_17 : decode cX4_labelIn 17 = .ok (.iaload, 1) := by decide +kernel
theorem dX4_labelIn_18 : decode cX4_labelIn 18 = .ok (.goto 4, 3) := by decide +kernel
theorem dX4_labelIn_21 : decode cX4_labelIn 21 = .ok (.iconst (-1), 1) := by decide +kernel
theorem dX4_labelIn_22 : decode cX4_labelIn 22 = .ok (.ireturn, 1) := by decide +kernel
theorem dX4_putLabel_0 : decode cX4_putLabel 0 = .ok (.iload_n 1, 1) := by decide +kernel
theorem dX4_putLabel_1 : decode cX4_putLabel 1 = .ok (.ifCond .lt 18, 3) := by decide +kernel
theorem dX4_putLabel_4 : decode cX4_putLabel 4 = .ok (.iload_n 1, 1) := by decide +kernel
theorem dX4_putLabel_5 : decode cX4_putLabel 5 = .ok (.aload_n 0, 1) := by decide +kernel
theorem dX4_putLabel_6 : decode cX4_putLabel 6 = .ok (.getfield 28, 3) := by decide +kernel
theorem dX4_putLabel_9 : decode cX4_putLabel 9 = .ok (.if_icmp .ge 10, 3) := by decide +kernel
theorem dX4_putLabel_12 : decode cX4_putLabel 12 = .ok (.aload_n 0, 1) := by decide +kernel
theorem dX4_putLabel_13 : decode cX4_putLabel 13 = .ok (.getfield 22, 3) := by decide +kernel
theorem dX4_putLabel_16 : decode cX4_putLabel 16 = .ok (.iload_n 1, 1) := by decide +kernel
theorem dX4_putLabel_17 : decode cX4_putLabel 17 = .ok (.iload_n 2, 1) := by decide +kernel
theorem dX4_putLabel_18 : decode cX4_putLabel 18 = .ok (.iastore, 1) := by decide +kernel
theorem dX4_putLabel_19 : decode cX4_putLabel 19 = .ok (.return_, 1) := by decide +kernel
set_option maxRecDepth 200000 in
theorem ggX4_labelCount_X4_labelIn : GoodIn wsX4_labelCount wsX4_labelIn := goodIn_r _ [6, 1, 7, 8, 9, 10, 11, 12, 13] rfl (by decide +kernel)
set_option maxRecDepth 200000 in
theorem gX4_labelCount_X4_labelIn : GoodIn wsX4_labelCount (wsV RX4 37 RX4 yX4_labelIn wsX4_labelIn) := goodIn_app (goodIn_of _ (by decide +kernel)) ggX4_labelCount_X4_labelIn
theorem dX4_labelCount_0 : decode cX4_labelCount 0 = .ok (.iconst 0, 1) := by decide +kernel
theorem dX4_labelCount_1 : decode cX4_labelCount 1 = .ok (.istore_n 1, 1) := by decide +kernel
theorem dX4_labelCount_2 : decode cX4_labelCount 2 = .ok (.iconst 0, 1) := by decide +kernel
theorem dX4_labelCount_3 : decode cX4_labelCount 3 = .ok (.istore_n 2, 1) := by decide +kernel
theorem dX4_labelCount_4 : decode cX4_labelCount 4 = .ok (.iload_n 2, 1) := by decide +kernel
theorem dX4_labelCount_5 : decode cX4_labelCount 5 = .ok (.aload_n 0, 1) := by decide +kernel
theorem dX4_labelCount_6 : decode cX4_labelCount 6 = .ok (.getfield 28, 3) := by decide +kernel
theorem dX4_labelCount_9 : decode cX4_labelCount 9 = .ok (.if_icmp .ge 21, 3) := by decide +kernel
theorem dX4_labelCount_12 : decode cX4_labelCount 12 = .ok (.aload_n 0, 1) := by decide +kernel
theorem dX4_labelCount_13 : decode cX4_labelCount 13 = .ok (.iload_n 2, 1) := by decide +kernel
theorem dX4_labelCount_14 : decode cX4_labelCount 14 = .ok (.invokevirtual 37, 3) := by decide +kernel
theorem dX4_labelCount_17 : decode cX4_labelCount 17 = .ok (.iconst (-1), 1) := by decide +kernel
theorem dX4_labelCount_18 : decode cX4_labelCount 18 = .ok (.if_icmp .eq 6, 3) := by decide +kernel
theorem dX4_labelCount_21 : decode cX4_labelCount 21 = .ok (.iinc 1 1, 3) := by decide +kernel
theorem dX4_labelCount_24 : decode cX4_labelCount 24 = .ok (.iinc 2 1, 3) := by decide +kernel
theorem dX4_labelCount_27 : decode cX4_labelCount 27 = .ok (.goto (-23), 3) := by decide +kernel
theorem dX4_labelCount_30 : decode cX4_labelCount 30 = .ok (.iload_n 1, 1) := by decide +kernel
theorem dX4_labelCount_31 : decode cX4_labelCount 31 = .ok (.ireturn, 1) := by decide +kernel
theorem dX4_stepCount_0 : decode cX4_stepCount 0 = .ok (.iload_n 1, 1) := by decide +kernel
theorem dX4_stepCount_1 : decode cX4_stepCount 1 = .ok (.ifCond .lt 20, 3) := by decide +kernel
theorem dX4_stepCount_4 : decode cX4_stepCount 4 = .ok (.iload_n 1, 1) := by decide +kernel
theorem dX4_stepCount_5 : decode cX4_stepCount 5 = .ok (.aload_n 0, 1) := by decide +kernel
theorem dX4_stepCount_6 : decode cX4_stepCount 6 = .ok (.getfield 28, 3) := by decide +kernel
theorem dX4_stepCount_9 : decode cX4_stepCount 9 = .ok (.if_icmp .ge 12, 3) := by decide +kernel
theorem dX4_stepCount_12 : decode cX4_stepCount 12 = .ok (.aload_n 0, 1) := by decide +kernel
theorem dX4_stepCount_13 : decode cX4_stepCount 13 = .ok (.getfield 19, 3) := by decide +kernel
theorem dX4_stepCount_16 : decode cX4_stepCount 16 = .ok (.iload_n 1, 1) := by decide +kernel
theorem dX4_stepCount_17 : decode cX4_stepCount 17 = .ok (.iaload, 1) := by decide +kernel
theorem dX4_stepCount_18 : decode cX4_stepCount 18 = .ok (.goto 4, 3) := by decide +kernel
theorem dX4_stepCount_21 : decode cX4_stepCount 21 = .ok (.iconst (-1), 1) := by decide +kernel
theorem dX4_stepCount_22 : decode cX4_stepCount 22 = .ok (.ireturn, 1) := by decide +kernel
theorem dX4_pointAt_0 : decode cX4_pointAt 0 = .ok (.iload_n 1, 1) := by decide +kernel
theorem dX4_pointAt_1 : decode cX4_pointAt 1 = .ok (.ifCond .lt 25, 3) := by decide +kernel
theorem dX4_pointAt_4 : decode cX4_pointAt 4 = .ok (.iload_n 1, 1) := by decide +kernel
theorem dX4_pointAt_5 : decode cX4_pointAt 5 = .ok (.aload_n 0, 1) := by decide +kernel
theorem dX4_pointAt_6 : decode cX4_pointAt 6 = .ok (.getfield 28, 3) := by decide +kernel
theorem dX4_pointAt_9 : decode cX4_pointAt 9 = .ok (.if_icmp .ge 17, 3) := by decide +kernel
theorem dX4_pointAt_12 : decode cX4_pointAt 12 = .ok (.iload_n 2, 1) := by decide +kernel
theorem dX4_pointAt_13 : decode cX4_pointAt 13 = .ok (.ifCond .lt 13, 3) := by decide +kernel
theorem dX4_pointAt_16 : decode cX4_pointAt 16 = .ok (.iload_n 2, 1) := by decide +kernel
theorem dX4_pointAt_17 : decode cX4_pointAt 17 = .ok (.aload_n 0, 1) := by decide +kernel
theorem dX4_pointAt_18 : decode cX4_pointAt 18 = .ok (.getfield 19, 3) := by decide +kernel
theorem dX4_pointAt_21 : decode cX4_pointAt 21 = .ok (.iload_n 1, 1) := by decide +kernel
theorem dX4_pointAt_22 : decode cX4_pointAt 22 = .ok (.iaload, 1) := by decide +kernel
theorem dX4_pointAt_23 : decode cX4_pointAt 23 = .ok (.if_icmp .le 5, 3) := by decide +kernel
theorem dX4_pointAt_26 : decode cX4_pointAt 26 = .ok (.iconst (-1), 1) := by decide +kernel
theorem dX4_pointAt_27 : decode cX4_pointAt 27 = .ok (.ireturn, 1) := by decide +kernel
theorem dX4_pointAt_28 : decode cX4_pointAt 28 = .ok (.aload_n 0, 1) := by decide +kernel
theorem dX4_pointAt_29 : decode cX4_pointAt 29 = .ok (.getfield 25, 3) := by decide +kernel
theorem dX4_pointAt_32 : decode cX4_pointAt 32 = .ok (.iload_n 1, 1) := by decide +kernel
theorem dX4_pointAt_33 : decode cX4_pointAt 33 = .ok (.bipush 61, 2) := by decide +kernel
theorem dX4_pointAt_35 : decode cX4_pointAt 35 = .ok (.imul, 1) := by decide +kernel
theorem dX4_pointAt_36 : decode cX4_pointAt 36 = .ok (.iload_n 2, 1) := by decide +kernel
theorem dX4_pointAt_37 : decode cX4_pointAt 37 = .ok (.iadd, 1) := by decide +kernel
theorem dX4_pointAt_38 : decode cX4_pointAt 38 = .ok (.iaload, 1) := by decide +kernel
theorem dX4_pointAt_39 : decode cX4_pointAt 39 = .ok (.ireturn, 1) := by decide +kernel
theorem dX4_directionAt_0 : decode cX4_directionAt 0 = .ok (.iload_n 1, 1) := by decide +kernel
theorem dX4_directionAt_1 : decode cX4_directionAt 1 = .ok (.ifCond .lt 25, 3) := by decide +kernel
theorem dX4_directionAt_4 : decode cX4_directionAt 4 = .ok (.iload_n 1, 1) := by decide +kernel
theorem dX4_directionAt_5 : decode cX4_directionAt 5 = .ok (.aload_n 0, 1) := by decide +kernel
theorem dX4_directionAt_6 : decode cX4_directionAt 6 = .ok (.getfield 28, 3) := by decide +kernel
theorem dX4_directionAt_9 : decode cX4_directionAt 9 = .ok (.if_icmp .ge 17, 3) := by decide +kernel
theorem dX4_directionAt_12 : decode cX4_directionAt 12 = .ok (.iload_n 2, 1) := by decide +kernel
theorem dX4_directionAt_13 : decode cX4_directionAt 13 = .ok (.ifCond .lt 13, 3) := by decide +kernel
theorem dX4_directionAt_16 : decode cX4_directionAt 16 = .ok (.iload_n 2, 1) := by decide +kernel
theorem dX4_directionAt_17 : decode cX4_directionAt 17 = .ok (.aload_n 0, 1) := by decide +kernel
theorem dX4_directionAt_18 : decode cX4_directionAt 18 = .ok (.getfield 19, 3) := by decide +kernel
theorem dX4_directionAt_21 : decode cX4_directionAt 21 = .ok (.iload_n 1, 1) := by decide +kernel
theorem dX4_directionAt_22 : decode cX4_directionAt 22 = .ok (.iaload, 1) := by decide +kernel
theorem dX4_directionAt_23 : decode cX4_directionAt 23 = .ok (.if_icmp .lt 5, 3) := by decide +kernel
theorem dX4_directionAt_26 : decode cX4_directionAt 26 = .ok (.iconst (-1), 1) := by decide +kernel
theorem dX4_directionAt_27 : decode cX4_directionAt 27 = .ok (.ireturn, 1) := by decide +kernel
theorem dX4_directionAt_28 : decode cX4_directionAt 28 = .ok (.iload_n 1, 1) := by decide +kernel
theorem dX4_directionAt_29 : decode cX4_directionAt 29 = .ok (.bipush 61, 2) := by decide +kernel
theorem dX4_directionAt_31 : decode cX4_directionAt 31 = .ok (.imul, 1) := by decide +kernel
theorem dX4_directionAt_32 : decode cX4_directionAt 32 = .ok (.iload_n 2, 1) := by decide +kernel
theorem dX4_directionAt_33 : decode cX4_directionAt 33 = .ok (.iadd, 1) := by decide +kernel
theorem dX4_directionAt_34 : decode cX4_directionAt 34 = .ok (.istore_n 3, 1) := by decide +kernel
theorem dX4_directionAt_35 : decode cX4_directionAt 35 = .ok (.aload_n 0, 1) := by decide +kernel
theorem dX4_directionAt_36 : decode cX4_directionAt 36 = .ok (.getfield 25, 3) := by decide +kernel
theorem dX4_directionAt_39 : decode cX4_directionAt 39 = .ok (.iload_n 3, 1) := by decide +kernel
theorem dX4_directionAt_40 : decode cX4_directionAt 40 = .ok (.iconst 1, 1) := by decide +kernel
theorem dX4_directionAt_41 : decode cX4_directionAt 41 = .ok (.iadd, 1) := by decide +kernel
theorem dX4_directionAt_42 : decode cX4_directionAt 42 = .ok (.iaload, 1) := by decide +kernel
theorem dX4_directionAt_43 : decode cX4_directionAt 43 = .ok (.aload_n 0, 1) := by decide +kernel
theorem dX4_directionAt_44 : decode cX4_directionAt 44 = .ok (.getfield 25, 3) := by decide +kernel
theorem dX4_directionAt_47 : decode cX4_directionAt 47 = .ok (.iload_n 3, 1) := by decide +kernel
theorem dX4_directionAt_48 : decode cX4_directionAt 48 = .ok (.iaload, 1) := by decide +kernel
theorem dX4_directionAt_49 : decode cX4_directionAt 49 = .ok (.isub, 1) := by decide +kernel
theorem dX4_directionAt_50 : decode cX4_directionAt 50 = .ok (.lookupswitch 81 #[(-25, 76), (-24, 78), (-1, 74), (1, 66), (23, 72), (24, 70), (25, 68)], 66) := by decide +kernel
theorem dX4_directionAt_116 : decode cX4_directionAt 116 = .ok (.iconst 0, 1) := by decide +kernel
theorem dX4_directionAt_117 : decode cX4_directionAt 117 = .ok (.ireturn, 1) := by decide +kernel
theorem dX4_directionAt_118 : decode cX4_directionAt 118 = .ok (.iconst 1, 1) := by decide +kernel
theorem dX4_directionAt_119 : decode cX4_directionAt 119 = .ok (.ireturn, 1) := by decide +kernel
theorem dX4_directionAt_120 : decode cX4_directionAt 120 = .ok (.iconst 2, 1) := by decide +kernel
theorem dX4_directionAt_121 : decode cX4_directionAt 121 = .ok (.ireturn, 1) := by decide +kernel
theorem dX4_directionAt_122 : decode cX4_directionAt 122 = .ok (.iconst 3, 1) := by decide +kernel
theorem dX4_directionAt_123 : decode cX4_directionAt 123 = .ok (.ireturn, 1) := by decide +kernel
theorem dX4_directionAt_124 : decode cX4_directionAt 124 = .ok (.iconst 4, 1) := by decide +kernel
theorem dX4_directionAt_125 : decode cX4_directionAt 125 = .ok (.ireturn, 1) := by decide +kernel
theorem dX4_directionAt_126 : decode cX4_directionAt 126 = .ok (.iconst 5, 1) := by decide +kernel
theorem dX4_directionAt_127 : decode cX4_directionAt 127 = .ok (.ireturn, 1) := by decide +kernel
theorem dX4_directionAt_128 : decode cX4_directionAt 128 = .ok (.bipush 6, 2) := by decide +kernel
theorem dX4_directionAt_130 : decode cX4_directionAt 130 = .ok (.ireturn, 1) := by decide +kernel
theorem dX4_directionAt_131 : decode cX4_directionAt 131 = .ok (.bipush 7, 2) := by decide +kernel
theorem dX4_directionAt_133 : decode cX4_directionAt 133 = .ok (.ireturn, 1) := by decide +kernel
set_option maxRecDepth 200000 in
theorem ggX4_lineOn_X4_isOn : GoodIn wsX4_lineOn wsX4_isOn := goodIn_r _ [6, 7, 8, 9, 5, 10, 1, 11, 12, 13, 14, 15, 16, 17, 18, 19, 20, 21, 22] rfl (by decide +kernel)
set_option maxRecDepth 200000 in
theorem gX4_lineOn_X4_isOn : GoodIn wsX4_lineOn (wsV RX4 41 RX4 yX4_isOn wsX4_isOn) := goodIn_app (goodIn_of _ (by decide +kernel)) ggX4_lineOn_X4_isOn
theorem dX4_lineOn_0 : decode cX4_lineOn 0 = .ok (.iconst 0, 1) := by decide +kernel
theorem dX4_lineOn_1 : decode cX4_lineOn 1 = .ok (.istore_n 2, 1) := by decide +kernel
theorem dX4_lineOn_2 : decode cX4_lineOn 2 = .ok (.iload_n 2, 1) := by decide +kernel
theorem dX4_lineOn_3 : decode cX4_lineOn 3 = .ok (.aload_n 0, 1) := by decide +kernel
theorem dX4_lineOn_4 : decode cX4_lineOn 4 = .ok (.getfield 28, 3) := by decide +kernel
theorem dX4_lineOn_7 : decode cX4_lineOn 7 = .ok (.if_icmp .ge 20, 3) := by decide +kernel
theorem dX4_lineOn_10 : decode cX4_lineOn 10 = .ok (.aload_n 0, 1) := by decide +kernel
theorem dX4_lineOn_11 : decode cX4_lineOn 11 = .ok (.iload_n 2, 1) := by decide +kernel
theorem dX4_lineOn_12 : decode cX4_lineOn 12 = .ok (.iload_n 1, 1) := by decide +kernel
theorem dX4_lineOn_13 : decode cX4_lineOn 13 = .ok (.invokevirtual 41, 3) := by decide +kernel
theorem dX4_lineOn_16 : decode cX4_lineOn 16 = .ok (.ifCond .eq 5, 3) := by decide +kernel
theorem dX4_lineOn_19 : decode cX4_lineOn 19 = .ok (.iload_n 2, 1) := by decide +kernel
theorem dX4_lineOn_20 : decode cX4_lineOn 20 = .ok (.ireturn, 1) := by decide +kernel
theorem dX4_lineOn_21 : decode cX4_lineOn 21 = .ok (.iinc 2 1, 3) := by decide +kernel
theorem dX4_lineOn_24 : decode cX4_lineOn 24 = .ok (.goto (-22), 3) := by decide +kernel
theorem dX4_lineOn_27 : decode cX4_lineOn 27 = .ok (.iconst (-1), 1) := by decide +kernel
theorem dX4_lineOn_28 : decode cX4_lineOn 28 = .ok (.ireturn, 1) := by decide +kernel
set_option maxRecDepth 200000 in
theorem ggX4_isOn_X4_stepCount : GoodIn wsX4_isOn wsX4_stepCount := goodIn_r _ [5, 6, 7, 13, 14, 15, 16, 17, 18] rfl (by decide +kernel)
set_option maxRecDepth 200000 in
theorem gX4_isOn_X4_stepCount : GoodIn wsX4_isOn (wsV RX4 45 RX4 yX4_stepCount wsX4_stepCount) := goodIn_app (goodIn_of _ (by decide +kernel)) ggX4_isOn_X4_stepCount
set_option maxRecDepth 200000 in
theorem ggX4_isOn_X4_pointAt : GoodIn wsX4_isOn wsX4_pointAt := goodIn_r _ [11, 6, 7, 12, 13, 14, 15, 16, 17, 18] rfl (by decide +kernel)
set_option maxRecDepth 200000 in
theorem gX4_isOn_X4_pointAt : GoodIn wsX4_isOn (wsV RX4 48 RX4 yX4_pointAt wsX4_pointAt) := goodIn_app (goodIn_of _ (by decide +kernel)) ggX4_isOn_X4_pointAt
theorem dX4_isOn_0 : decode cX4_isOn 0 = .ok (.aload_n 0, 1) := by decide +kernel
theorem dX4_isOn_1 : decode cX4_isOn 1 = .ok (.iload_n 1, 1) := by decide +kernel
theorem dX4_isOn_2 : decode cX4_isOn 2 = .ok (.invokevirtual 45, 3) := by decide +kernel
theorem dX4_isOn_5 : decode cX4_isOn 5 = .ok (.istore_n 3, 1) := by decide +kernel
theorem dX4_isOn_6 : decode cX4_isOn 6 = .ok (.iconst 0, 1) := by decide +kernel
theorem dX4_isOn_7 : decode cX4_isOn 7 = .ok (.istore 4, 2) := by decide +kernel
theorem dX4_isOn_9 : decode cX4_isOn 9 = .ok (.iload 4, 2) := by decide +kernel
theorem dX4_isOn_11 : decode cX4_isOn 11 = .ok (.iload_n 3, 1) := by decide +kernel
theorem dX4_isOn_12 : decode cX4_isOn 12 = .ok (.if_icmp .gt 22, 3) := by decide +kernel
theorem dX4_isOn_15 : decode cX4_isOn 15 = .ok (.aload_n 0, 1) := by decide +kernel
theorem dX4_isOn_16 : decode cX4_isOn 16 = .ok (.iload_n 1, 1) := by decide +kernel
theorem dX4_isOn_17 : decode cX4_isOn 17 = .ok (.iload 4, 2) := by decide +kernel
theorem dX4_isOn_19 : decode cX4_isOn 19 = .ok (.invokevirtual 48, 3) := by decide +kernel
theorem dX4_isOn_22 : decode cX4_isOn 22 = .ok (.iload_n 2, 1) := by decide +kernel
theorem dX4_isOn_23 : decode cX4_isOn 23 = .ok (.if_icmp .ne 5, 3) := by decide +kernel
theorem dX4_isOn_26 : decode cX4_isOn 26 = .ok (.iconst 1, 1) := by decide +kernel
theorem dX4_isOn_27 : decode cX4_isOn 27 = .ok (.ireturn, 1) := by decide +kernel
theorem dX4_isOn_28 : decode cX4_isOn 28 = .ok (.iinc 4 1, 3) := by decide +kernel
theorem dX4_isOn_31 : decode cX4_isOn 31 = .ok (.goto (-22), 3) := by decide +kernel
theorem dX4_isOn_34 : decode cX4_isOn 34 = .ok (.iconst 0, 1) := by decide +kernel
theorem dX4_isOn_35 : decode cX4_isOn 35 = .ok (.ireturn, 1) := by decide +kernel
theorem dX4_isRing_0 : decode cX4_isRing 0 = .ok (.iload_n 1, 1) := by decide +kernel
theorem dX4_isRing_1 : decode cX4_isRing 1 = .ok (.ifCond .lt 21, 3) := by decide +kernel
theorem dX4_isRing_4 : decode cX4_isRing 4 = .ok (.iload_n 1, 1) := by decide +kernel
theorem dX4_isRing_5 : decode cX4_isRing 5 = .ok (.aload_n 0, 1) := by decide +kernel
theorem dX4_isRing_6 : decode cX4_isRing 6 = .ok (.getfield 28, 3) := by decide +kernel
theorem dX4_isRing_9 : decode cX4_isRing 9 = .ok (.if_icmp .ge 13, 3) := by decide +kernel
theorem dX4_isRing_12 : decode cX4_isRing 12 = .ok (.aload_n 0, 1) := by decide +kernel
theorem dX4_isRing_13 : decode cX4_isRing 13 = .ok (.getfield 19, 3) := by decide +kernel
theorem dX4_isRing_16 : decode cX4_isRing 16 = .ok (.iload_n 1, 1) := by decide +kernel
theorem dX4_isRing_17 : decode cX4_isRing 17 = .ok (.iaload, 1) := by decide +kernel
theorem dX4_isRing_18 : decode cX4_isRing 18 = .ok (.iconst 4, 1) := by decide +kernel
theorem dX4_isRing_19 : decode cX4_isRing 19 = .ok (.if_icmp .ge 5, 3) := by decide +kernel
theorem dX4_isRing_22 : decode cX4_isRing 22 = .ok (.iconst 0, 1) := by decide +kernel
theorem dX4_isRing_23 : decode cX4_isRing 23 = .ok (.ireturn, 1) := by decide +kernel
theorem dX4_isRing_24 : decode cX4_isRing 24 = .ok (.iload_n 1, 1) := by decide +kernel
theorem dX4_isRing_25 : decode cX4_isRing 25 = .ok (.bipush 61, 2) := by decide +kernel
theorem dX4_isRing_27 : decode cX4_isRing 27 = .ok (.imul, 1) := by decide +kernel
theorem dX4_isRing_28 : decode cX4_isRing 28 = .ok (.istore_n 2, 1) := by decide +kernel
theorem dX4_isRing_29 : decode cX4_isRing 29 = .ok (.aload_n 0, 1) := by decide +kernel
theorem dX4_isRing_30 : decode cX4_isRing 30 = .ok (.getfield 25, 3) := by decide +kernel
theorem dX4_isRing_33 : decode cX4_isRing 33 = .ok (.iload_n 2, 1) := by decide +kernel
theorem dX4_isRing_34 : decode cX4_isRing 34 = .ok (.aload_n 0, 1) := by decide +kernel
theorem dX4_isRing_35 : decode cX4_isRing 35 = .ok (.getfield 19, 3) := by decide +kernel
theorem dX4_isRing_38 : decode cX4_isRing 38 = .ok (.iload_n 1, 1) := by decide +kernel
theorem dX4_isRing_39 : decode cX4_isRing 39 = .ok (.iaload, 1) := by decide +kernel
theorem dX4_isRing_40 : decode cX4_isRing 40 = .ok (.iadd, 1) := by decide +kernel
theorem dX4_isRing_41 : decode cX4_isRing 41 = .ok (.iaload, 1) := by decide +kernel
theorem dX4_isRing_42 : decode cX4_isRing 42 = .ok (.aload_n 0, 1) := by decide +kernel
theorem dX4_isRing_43 : decode cX4_isRing 43 = .ok (.getfield 25, 3) := by decide +kernel
theorem dX4_isRing_46 : decode cX4_isRing 46 = .ok (.iload_n 2, 1) := by decide +kernel
theorem dX4_isRing_47 : decode cX4_isRing 47 = .ok (.iaload, 1) := by decide +kernel
theorem dX4_isRing_48 : decode cX4_isRing 48 = .ok (.if_icmp .ne 7, 3) := by decide +kernel
theorem dX4_isRing_51 : decode cX4_isRing 51 = .ok (.iconst 1, 1) := by decide +kernel
theorem dX4_isRing_52 : decode cX4_isRing 52 = .ok (.goto 4, 3) := by decide +kernel
theorem dX4_isRing_55 : decode cX4_isRing 55 = .ok (.iconst 0, 1) := by decide +kernel
theorem dX4_isRing_56 : decode cX4_isRing 56 = .ok (.ireturn, 1) := by decide +kernel
set_option maxRecDepth 200000 in
theorem ggX4_hasRoomAt_X4_lineOn : GoodIn wsX4_hasRoomAt wsX4_lineOn := goodIn_r _ [6, 1, 7, 8, 9, 5, 10, 11, 12, 13, 14, 15, 16, 17, 18, 19, 20, 21, 22, 23, 24, 25, 26] rfl (by decide +kernel)
set_option maxRecDepth 200000 in
theorem gX4_hasRoomAt_X4_lineOn : GoodIn wsX4_hasRoomAt (wsV RX4 52 RX4 yX4_lineOn wsX4_lineOn) := goodIn_app (goodIn_of _ (by decide +kernel)) ggX4_hasRoomAt_X4_lineOn
theorem dX4_hasRoomAt_0 : decode cX4_hasRoomAt 0 = .ok (.aload_n 0, 1) := by decide +kernel
theorem dX4_hasRoomAt_1 : decode cX4_hasRoomAt 1 = .ok (.getfield 28, 3) := by decide +kernel
theorem dX4_hasRoomAt_4 : decode cX4_hasRoomAt 4 = .ok (.bipush 8, 2) := by decide +kernel
theorem dX4_hasRoomAt_6 : decode cX4_hasRoomAt 6 = .ok (.if_icmp .ge 16, 3) := by decide +kernel
theorem dX4_hasRoomAt_9 : decode cX4_hasRoomAt 9 = .ok (.aload_n 0, 1) := by decide +kernel
theorem dX4_hasRoomAt_10 : decode cX4_hasRoomAt 10 = .ok (.iload_n 1, 1) := by decide +kernel
theorem dX4_hasRoomAt_11 : decode cX4_hasRoomAt 11 = .ok (.invokevirtual 52, 3) := by decide +kernel
theorem dX4_hasRoomAt_14 : decode cX4_hasRoomAt 14 = .ok (.iconst (-1), 1) := by decide +kernel
theorem dX4_hasRoomAt_15 : decode cX4_hasRoomAt 15 = .ok (.if_icmp .ne 7, 3) := by decide +kernel
theorem dX4_hasRoomAt_18 : decode cX4_hasRoomAt 18 = .ok (.iconst 1, 1) := by decide +kernel
theorem dX4_hasRoomAt_19 : decode cX4_hasRoomAt 19 = .ok (.goto 4, 3) := by decide +kernel
theorem dX4_hasRoomAt_22 : decode cX4_hasRoomAt 22 = .ok (.iconst 0, 1) := by decide +kernel
theorem dX4_hasRoomAt_23 : decode cX4_hasRoomAt 23 = .ok (.ireturn, 1) := by decide +kernel
theorem dX4_addLine_0 : decode cX4_addLine 0 = .ok (.aload_n 0, 1) := by decide +kernel
theorem dX4_addLine_1 : decode cX4_addLine 1 = .ok (.getfield 28, 3) := by decide +kernel
theorem dX4_addLine_4 : decode cX4_addLine 4 = .ok (.bipush 8, 2) := by decide +kernel
theorem dX4_addLine_6 : decode cX4_addLine 6 = .ok (.if_icmp .lt 5, 3) := by decide +kernel
theorem dX4_addLine_9 : decode cX4_addLine 9 = .ok (.iconst (-1), 1) := by decide +kernel
theorem dX4_addLine_10 : decode cX4_addLine 10 = .ok (.ireturn, 1) := by decide +kernel
theorem dX4_addLine_11 : decode cX4_addLine 11 = .ok (.aload_n 0, 1) := by decide +kernel
theorem dX4_addLine_12 : decode cX4_addLine 12 = .ok (.getfield 28, 3) := by decide +kernel
theorem dX4_addLine_15 : decode cX4_addLine 15 = .ok (.istore_n 3, 1) := by decide +kernel
theorem dX4_addLine_16 : decode cX4_addLine 16 = .ok (.aload_n 0, 1) := by decide +kernel
theorem dX4_addLine_17 : decode cX4_addLine 17 = .ok (.getfield 15, 3) := by decide +kernel
theorem dX4_addLine_20 : decode cX4_addLine 20 = .ok (.iload_n 3, 1) := by decide +kernel
theorem dX4_addLine_21 : decode cX4_addLine 21 = .ok (.iload_n 1, 1) := by decide +kernel
theorem dX4_addLine_22 : decode cX4_addLine 22 = .ok (.iastore, 1) := by decide +kernel
theorem dX4_addLine_23 : decode cX4_addLine 23 = .ok (.aload_n 0, 1) := by decide +kernel
theorem dX4_addLine_24 : decode cX4_addLine 24 = .ok (.getfield 19, 3) := by decide +kernel
theorem dX4_addLine_27 : decode cX4_addLine 27 = .ok (.iload_n 3, 1) := by decide +kernel
theorem dX4_addLine_28 : decode cX4_addLine 28 = .ok (.iconst 0, 1) := by decide +kernel
theorem dX4_addLine_29 : decode cX4_addLine 29 = .ok (.iastore, 1) := by decide +kernel
theorem dX4_addLine_30 : decode cX4_addLine 30 = .ok (.aload_n 0, 1) := by decide +kernel
theorem dX4_addLine_31 : decode cX4_addLine 31 = .ok (.getfield 22, 3) := by decide +kernel
theorem dX4_addLine_34 : decode cX4_addLine 34 = .ok (.iload_n 3, 1) := by decide +kernel
theorem dX4_addLine_35 : decode cX4_addLine 35 = .ok (.iconst (-1), 1) := by decide +kernel
theorem dX4_addLine_36 : decode cX4_addLine 36 = .ok (.iastore, 1) := by decide +kernel
theorem dX4_addLine_37 : decode cX4_addLine 37 = .ok (.aload_n 0, 1) := by decide +kernel
theorem dX4_addLine_38 : decode cX4_addLine 38 = .ok (.getfield 25, 3) := by decide +kernel
theorem dX4_addLine_41 : decode cX4_addLine 41 = .ok (.iload_n 3, 1) := by decide +kernel
theorem dX4_addLine_42 : decode cX4_addLine 42 = .ok (.bipush 61, 2) := by decide +kernel
theorem dX4_addLine_44 : decode cX4_addLine 44 = .ok (.imul, 1) := by decide +kernel
theorem dX4_addLine_45 : decode cX4_addLine 45 = .ok (.iload_n 2, 1) := by decide +kernel
theorem dX4_addLine_46 : decode cX4_addLine 46 = .ok (.iastore, 1) := by decide +kernel
theorem dX4_addLine_47 : decode cX4_addLine 47 = .ok (.aload_n 0, 1) := by decide +kernel
theorem dX4_addLine_48 : decode cX4_addLine 48 = .ok (.dup, 1) := by decide +kernel
theorem dX4_addLine_49 : decode cX4_addLine 49 = .ok (.getfield 28, 3) := by decide +kernel
theorem dX4_addLine_52 : decode cX4_addLine 52 = .ok (.iconst 1, 1) := by decide +kernel
theorem dX4_addLine_53 : decode cX4_addLine 53 = .ok (.iadd, 1) := by decide +kernel
theorem dX4_addLine_54 : decode cX4_addLine 54 = .ok (.putfield 28, 3) := by decide +kernel
theorem dX4_addLine_57 : decode cX4_addLine 57 = .ok (.iload_n 3, 1) := by decide +kernel
theorem dX4_addLine_58 : decode cX4_addLine 58 = .ok (.ireturn, 1) := by decide +kernel
set_option maxRecDepth 200000 in
theorem ggX4_addStep_X4_stepCount : GoodIn wsX4_addStep wsX4_stepCount := goodIn_r _ [7, 8, 2, 30, 31, 32, 33, 34, 35] rfl (by decide +kernel)
set_option maxRecDepth 200000 in
theorem gX4_addStep_X4_stepCount : GoodIn wsX4_addStep (wsV RX4 45 RX4 yX4_stepCount wsX4_stepCount) := goodIn_app (goodIn_of _ (by decide +kernel)) ggX4_addStep_X4_stepCount
set_option maxRecDepth 200000 in
theorem ggX4_addStep_X4_pointAt : GoodIn wsX4_addStep wsX4_pointAt := goodIn_r _ [12, 8, 2, 1, 30, 31, 32, 33, 34, 35] rfl (by decide +kernel)
set_option maxRecDepth 200000 in
theorem gX4_addStep_X4_pointAt : GoodIn wsX4_addStep (wsV RX4 48 RX4 yX4_pointAt wsX4_pointAt) := goodIn_app (goodIn_of _ (by decide +kernel)) ggX4_addStep_X4_pointAt
set_option maxRecDepth 200000 in
theorem ggX4_addStep_X6_pointBeside : GoodIn wsX4_addStep wsX6_pointBeside := goodIn_r _ [15, 16, 17, 18, 19, 14, 20, 21, 22, 23, 24, 25, 26, 27, 28, 29] rfl (by decide +kernel)
set_option maxRecDepth 200000 in
theorem gX4_addStep_X6_pointBeside_n55 : GoodIn wsX4_addStep (wsX6_pointBeside) := ggX4_addStep_X6_pointBeside
theorem dX4_addStep_0 : decode cX4_addStep 0 = .ok (.aload_n 0, 1) := by decide +kernel
theorem dX4_addStep_1 : decode cX4_addStep 1 = .ok (.iload_n 1, 1) := by decide +kernel
theorem dX4_addStep_2 : decode cX4_addStep 2 = .ok (.invokevirtual 45, 3) := by decide +kernel
theorem dX4_addStep_5 : decode cX4_addStep 5 = .ok (.istore_n 3, 1) := by decide +kernel
theorem dX4_addStep_6 : decode cX4_addStep 6 = .ok (.iload_n 3, 1) := by decide +kernel
theorem dX4_addStep_7 : decode cX4_addStep 7 = .ok (.ifCond .lt 9, 3) := by decide +kernel
theorem dX4_addStep_10 : decode cX4_addStep 10 = .ok (.iload_n 3, 1) := by decide +kernel
theorem dX4_addStep_11 : decode cX4_addStep 11 = .ok (.bipush 60, 2) := by decide +kernel
theorem dX4_addStep_13 : decode cX4_addStep 13 = .ok (.if_icmp .lt 4, 3) := by decide +kernel
theorem dX4_addStep_16 : decode cX4_addStep 16 = .ok (.return_, 1) := by decide +kernel
theorem dX4_addStep_17 : decode cX4_addStep 17 = .ok (.aload_n 0, 1) := by decide +kernel
theorem dX4_addStep_18 : decode cX4_addStep 18 = .ok (.getfield 25, 3) := by decide +kernel
theorem dX4_addStep_21 : decode cX4_addStep 21 = .ok (.iload_n 1, 1) := by decide +kernel
theorem dX4_addStep_22 : decode cX4_addStep 22 = .ok (.bipush 61, 2) := by decide +kernel
theorem dX4_addStep_24 : decode cX4_addStep 24 = .ok (.imul, 1) := by decide +kernel
theorem dX4_addStep_25 : decode cX4_addStep 25 = .ok (.iload_n 3, 1) := by decide +kernel
theorem dX4_addStep_26 : decode cX4_addStep 26 = .ok (.iadd, 1) := by decide +kernel
theorem dX4_addStep_27 : decode cX4_addStep 27 = .ok (.iconst 1, 1) := by decide +kernel
theorem dX4_addStep_28 : decode cX4_addStep 28 = .ok (.iadd, 1) := by decide +kernel
theorem dX4_addStep_29 : decode cX4_addStep 29 = .ok (.aload_n 0, 1) := by decide +kernel
theorem dX4_addStep_30 : decode cX4_addStep 30 = .ok (.iload_n 1, 1) := by decide +kernel
theorem dX4_addStep_31 : decode cX4_addStep 31 = .ok (.iload_n 3, 1) := by decide +kernel
theorem dX4_addStep_32 : decode cX4_addStep 32 = .ok (.invokevirtual 48, 3) := by decide +kernel
theorem dX4_addStep_35 : decode cX4_addStep 35 = .ok (.iload_n 2, 1) := by decide +kernel
theorem dX4_addStep_36 : decode cX4_addStep 36 = .ok (.invokestatic 55, 3) := by decide +kernel
theorem dX4_addStep_39 : decode cX4_addStep 39 = .ok (.iastore, 1) := by decide +kernel
theorem dX4_addStep_40 : decode cX4_addStep 40 = .ok (.aload_n 0, 1) := by decide +kernel
theorem dX4_addStep_41 : decode cX4_addStep 41 = .ok (.getfield 19, 3) := by decide +kernel
theorem dX4_addStep_44 : decode cX4_addStep 44 = .ok (.iload_n 1, 1) := by decide +kernel
theorem dX4_addStep_45 : decode cX4_addStep 45 = .ok (.iload_n 3, 1) := by decide +kernel
theorem dX4_addStep_46 : decode cX4_addStep 46 = .ok (.iconst 1, 1) := by decide +kernel
theorem dX4_addStep_47 : decode cX4_addStep 47 = .ok (.iadd, 1) := by decide +kernel
theorem dX4_addStep_48 : decode cX4_addStep 48 = .ok (.iastore, 1) := by decide +kernel
theorem dX4_addStep_49 : decode cX4_addStep 49 = .ok (.return_, 1) := by decide +kernel
set_option maxRecDepth 200000 in
theorem ggX4_removeLine_X4_hasLine : GoodIn wsX4_removeLine wsX4_hasLine := goodIn_r _ [10, 5, 19, 20, 21, 22, 23, 24] rfl (by decide +kernel)
set_option maxRecDepth 200000 in
theorem gX4_removeLine_X4_hasLine : GoodIn wsX4_removeLine (wsV RX4 58 RX4 yX4_hasLine wsX4_hasLine) := goodIn_app (goodIn_of _ (by decide +kernel)) ggX4_removeLine_X4_hasLine
set_option maxRecDepth 200000 in
theorem ggX4_removeLine_X4_closeUp : GoodIn wsX4_removeLine wsX4_closeUp := goodIn_r _ [14, 5, 15, 16, 17, 18, 19, 20, 21, 22, 23, 24] rfl (by decide +kernel)
set_option maxRecDepth 200000 in
theorem gX4_removeLine_X4_closeUp : GoodIn wsX4_removeLine (wsV RX4 62 RX4 yX4_closeUp wsX4_closeUp) := goodIn_app (goodIn_of _ (by decide +kernel)) ggX4_removeLine_X4_closeUp
theorem dX4_removeLine_0 : decode cX4_removeLine 0 = .ok (.aload_n 0, 1) := by decide +kernel
theorem dX4_removeLine_1 : decode cX4_removeLine 1 = .ok (.iload_n 1, 1) := by decide +kernel
theorem dX4_removeLine_2 : decode cX4_removeLine 2 = .ok (.invokevirtual 58, 3) := by decide +kernel
theorem dX4_removeLine_5 : decode cX4_removeLine 5 = .ok (.ifCond .ne 5, 3) := by decide +kernel
theorem dX4_removeLine_8 : decode cX4_removeLine 8 = .ok (.iconst 0, 1) := by decide +kernel
theorem dX4_removeLine_9 : decode cX4_removeLine 9 = .ok (.ireturn, 1) := by decide +kernel
theorem dX4_removeLine_10 : decode cX4_removeLine 10 = .ok (.aload_n 0, 1) := by decide +kernel
theorem dX4_removeLine_11 : decode cX4_removeLine 11 = .ok (.aload_n 0, 1) := by decide +kernel
theorem dX4_removeLine_12 : decode cX4_removeLine 12 = .ok (.getfield 15, 3) := by decide +kernel
theorem dX4_removeLine_15 : decode cX4_removeLine 15 = .ok (.iload_n 1, 1) := by decide +kernel
theorem dX4_removeLine_16 : decode cX4_removeLine 16 = .ok (.iconst 1, 1) := by decide +kernel
theorem dX4_removeLine_17 : decode cX4_removeLine 17 = .ok (.invokevirtual 62, 3) := by decide +kernel
theorem dX4_removeLine_20 : decode cX4_removeLine 20 = .ok (.aload_n 0, 1) := by decide +kernel
theorem dX4_removeLine_21 : decode cX4_removeLine 21 = .ok (.aload_n 0, 1) := by decide +kernel
theorem dX4_removeLine_22 : decode cX4_removeLine 22 = .ok (.getfield 19, 3) := by decide +kernel
theorem dX4_removeLine_25 : decode cX4_removeLine 25 = .ok (.iload_n 1, 1) := by decide +kernel
theorem dX4_removeLine_26 : decode cX4_removeLine 26 = .ok (.iconst 1, 1) := by decide +kernel
theorem dX4_removeLine_27 : decode cX4_removeLine 27 = .ok (.invokevirtual 62, 3) := by decide +kernel
theorem dX4_removeLine_30 : decode cX4_removeLine 30 = .ok (.aload_n 0, 1) := by decide +kernel
theorem dX4_removeLine_31 : decode cX4_removeLine 31 = .ok (.aload_n 0, 1) := by decide +kernel
theorem dX4_removeLine_32 : decode cX4_removeLine 32 = .ok (.getfield 22, 3) := by decide +kernel
theorem dX4_removeLine_35 : decode cX4_removeLine 35 = .ok (.iload_n 1, 1) := by decide +kernel
theorem dX4_removeLine_36 : decode cX4_removeLine 36 = .ok (.iconst 1, 1) := by decide +kernel
theorem dX4_removeLine_37 : decode cX4_removeLine 37 = .ok (.invokevirtual 62, 3) := by decide +kernel
theorem dX4_removeLine_40 : decode cX4_removeLine 40 = .ok (.aload_n 0, 1) := by decide +kernel
theorem dX4_removeLine_41 : decode cX4_removeLine 41 = .ok (.aload_n 0, 1) := by decide +kernel
theorem dX4_removeLine_42 : decode cX4_removeLine 42 = .ok (.getfield 25, 3) := by decide +kernel
theorem dX4_removeLine_45 : decode cX4_removeLine 45 = .ok (.iload_n 1, 1) := by decide +kernel
theorem dX4_removeLine_46 : decode cX4_removeLine 46 = .ok (.bipush 61, 2) := by decide +kernel
theorem dX4_removeLine_48 : decode cX4_removeLine 48 = .ok (.invokevirtual 62, 3) := by decide +kernel
theorem dX4_removeLine_51 : decode cX4_removeLine 51 = .ok (.aload_n 0, 1) := by decide +kernel
theorem dX4_removeLine_52 : decode cX4_removeLine 52 = .ok (.dup, 1) := by decide +kernel
theorem dX4_removeLine_53 : decode cX4_removeLine 53 = .ok (.getfield 28, 3) := by decide +kernel
theorem dX4_removeLine_56 : decode cX4_removeLine 56 = .ok (.iconst 1, 1) := by decide +kernel
theorem dX4_removeLine_57 : decode cX4_removeLine 57 = .ok (.isub, 1) := by decide +kernel
theorem dX4_removeLine_58 : decode cX4_removeLine 58 = .ok (.putfield 28, 3) := by decide +kernel
theorem dX4_removeLine_61 : decode cX4_removeLine 61 = .ok (.iconst 1, 1) := by decide +kernel
theorem dX4_removeLine_62 : decode cX4_removeLine 62 = .ok (.ireturn, 1) := by decide +kernel
theorem dX4_closeUp_0 : decode cX4_closeUp 0 = .ok (.aload_n 1, 1) := by decide +kernel
theorem dX4_closeUp_1 : decode cX4_closeUp 1 = .ok (.iload_n 2, 1) := by decide +kernel
theorem dX4_closeUp_2 : decode cX4_closeUp 2 = .ok (.iconst 1, 1) := by decide +kernel
theorem dX4_closeUp_3 : decode cX4_closeUp 3 = .ok (.iadd, 1) := by decide +kernel
theorem dX4_closeUp_4 : decode cX4_closeUp 4 = .ok (.iload_n 3, 1) := by decide +kernel
theorem dX4_closeUp_5 : decode cX4_closeUp 5 = .ok (.imul, 1) := by decide +kernel
theorem dX4_closeUp_6 : decode cX4_closeUp 6 = .ok (.aload_n 1, 1) := by decide +kernel
theorem dX4_closeUp_7 : decode cX4_closeUp 7 = .ok (.iload_n 2, 1) := by decide +kernel
theorem dX4_closeUp_8 : decode cX4_closeUp 8 = .ok (.iload_n 3, 1) := by decide +kernel
theorem dX4_closeUp_9 : decode cX4_closeUp 9 = .ok (.imul, 1) := by decide +kernel
theorem dX4_closeUp_10 : decode cX4_closeUp 10 = .ok (.aload_n 0, 1) := by decide +kernel
theorem dX4_closeUp_11 : decode cX4_closeUp 11 = .ok (.getfield 28, 3) := by decide +kernel
theorem dX4_closeUp_14 : decode cX4_closeUp 14 = .ok (.iload_n 2, 1) := by decide +kernel
theorem dX4_closeUp_15 : decode cX4_closeUp 15 = .ok (.isub, 1) := by decide +kernel
theorem dX4_closeUp_16 : decode cX4_closeUp 16 = .ok (.iconst 1, 1) := by decide +kernel
theorem dX4_closeUp_17 : decode cX4_closeUp 17 = .ok (.isub, 1) := by decide +kernel
theorem dX4_closeUp_18 : decode cX4_closeUp 18 = .ok (.iload_n 3, 1) := by decide +kernel
theorem dX4_closeUp_19 : decode cX4_closeUp 19 = .ok (.imul, 1) := by decide +kernel
theorem dX4_closeUp_20 : decode cX4_closeUp 20 = .ok (.invokestatic 31, 3) := by decide +kernel
theorem dX4_closeUp_23 : decode cX4_closeUp 23 = .ok (.return_, 1) := by decide +kernel
set_option maxRecDepth 200000 in
theorem ggX4_reasonAgainstStep_X4_isRing : GoodIn wsX4_reasonAgainstStep wsX4_isRing := goodIn_r _ [5, 6, 7, 8, 52, 53, 54, 55, 56, 57] rfl (by decide +kernel)
set_option maxRecDepth 200000 in
theorem gX4_reasonAgainstStep_X4_isRing : GoodIn wsX4_reasonAgainstStep (wsV RX4 66 RX4 yX4_isRing wsX4_isRing) := goodIn_app (goodIn_of _ (by decide +kernel)) ggX4_reasonAgainstStep_X4_isRing
set_option maxRecDepth 200000 in
theorem ggX4_reasonAgainstStep_X4_stepCount : GoodIn wsX4_reasonAgainstStep wsX4_stepCount := goodIn_r _ [12, 6, 7, 52, 53, 54, 55, 56, 57] rfl (by decide +kernel)
set_option maxRecDepth 200000 in
theorem gX4_reasonAgainstStep_X4_stepCount : GoodIn wsX4_reasonAgainstStep (wsV RX4 45 RX4 yX4_stepCount wsX4_stepCount) := goodIn_app (goodIn_of _ (by decide +kernel)) ggX4_reasonAgainstStep_X4_stepCount
set_option maxRecDepth 200000 in
theorem ggX4_reasonAgainstStep_X4_pointAt : GoodIn wsX4_reasonAgainstStep wsX4_pointAt := goodIn_r _ [16, 6, 7, 8, 52, 53, 54, 55, 56, 57] rfl (by decide +kernel)
set_option maxRecDepth 200000 in
theorem gX4_reasonAgainstStep_X4_pointAt : GoodIn wsX4_reasonAgainstStep (wsV RX4 48 RX4 yX4_pointAt wsX4_pointAt) := goodIn_app (goodIn_of _ (by decide +kernel)) ggX4_reasonAgainstStep_X4_pointAt
set_option maxRecDepth 200000 in
theorem ggX4_reasonAgainstStep_X6_pointBeside : GoodIn wsX4_reasonAgainstStep wsX6_pointBeside := goodIn_r _ [19, 20, 21, 22, 23, 18, 24, 25, 26, 27, 28, 29, 30, 31, 32, 33] rfl (by decide +kernel)
set_option maxRecDepth 200000 in
theorem gX4_reasonAgainstStep_X6_pointBeside_n55 : GoodIn wsX4_reasonAgainstStep (wsX6_pointBeside) := ggX4_reasonAgainstStep_X6_pointBeside
set_option maxRecDepth 200000 in
theorem ggX4_reasonAgainstStep_X4_lineOn : GoodIn wsX4_reasonAgainstStep wsX4_lineOn := goodIn_r _ [37, 6, 38, 39, 40, 4, 41, 9, 10, 11, 12, 7, 13, 14, 15, 16, 8, 52, 53, 54, 55, 56, 57] rfl (by decide +kernel)
set_option maxRecDepth 200000 in
theorem gX4_reasonAgainstStep_X4_lineOn : GoodIn wsX4_reasonAgainstStep (wsV RX4 52 RX4 yX4_lineOn wsX4_lineOn) := goodIn_app (goodIn_of _ (by decide +kernel)) ggX4_reasonAgainstStep_X4_lineOn
set_option maxRecDepth 200000 in
theorem ggX4_reasonAgainstStep_X4_crosses : GoodIn wsX4_reasonAgainstStep wsX4_crosses := goodIn_r _ [45, 6, 26, 18, 27, 46, 47, 48, 49, 50, 4, 51, 9, 10, 11, 12, 7, 13, 14, 15, 16, 8, 52, 53, 54, 55, 56, 57] rfl (by decide +kernel)
set_option maxRecDepth 200000 in
theorem gX4_reasonAgainstStep_X4_crosses : GoodIn wsX4_reasonAgainstStep (wsV RX4 69 RX4 yX4_crosses wsX4_crosses) := goodIn_app (goodIn_of _ (by decide +kernel)) ggX4_reasonAgainstStep_X4_crosses
theorem dX4_reasonAgainstStep_0 : decode cX4_reasonAgainstStep 0 = .ok (.aload_n 0, 1) := by decide +kernel
theorem dX4_reasonAgainstStep_1 : decode cX4_reasonAgainstStep 1 = .ok (.iload_n 1, 1) := by decide +kernel
theorem dX4_reasonAgainstStep_2 : decode cX4_reasonAgainstStep 2 = .ok (.invokevirtual 66, 3) := by decide +kernel
theorem dX4_reasonAgainstStep_5 : decode cX4_reasonAgainstStep 5 = .ok (.ifCond .eq 5, 3) := by decide +kernel
theorem dX4_reasonAgainstStep_8 : decode cX4_reasonAgainstStep 8 = .ok (.iconst 1, 1) := by decide +kernel
theorem dX4_reasonAgainstStep_9 : decode cX4_reasonAgainstStep 9 = .ok (.ireturn, 1) := by decide +kernel
theorem dX4_reasonAgainstStep_10 : decode cX4_reasonAgainstStep 10 = .ok (.aload_n 0, 1) := by decide +kernel
theorem dX4_reasonAgainstStep_11 : decode cX4_reasonAgainstStep 11 = .ok (.iload_n 1, 1) := by decide +kernel
theorem dX4_reasonAgainstStep_12 : decode cX4_reasonAgainstStep 12 = .ok (.invokevirtual 45, 3) := by decide +kernel
theorem dX4_reasonAgainstStep_15 : decode cX4_reasonAgainstStep 15 = .ok (.istore_n 3, 1) := by decide +kernel
theorem dX4_reasonAgainstStep_16 : decode cX4_reasonAgainstStep 16 = .ok (.iload_n 3, 1) := by decide +kernel
theorem dX4_reasonAgainstStep_17 : decode cX4_reasonAgainstStep 17 = .ok (.bipush 60, 2) := by decide +kernel
theorem dX4_reasonAgainstStep_19 : decode cX4_reasonAgainstStep 19 = .ok (.if_icmp .lt 5, 3) := by decide +kernel
theorem dX4_reasonAgainstStep_22 : decode cX4_reasonAgainstStep 22 = .ok (.iconst 2, 1) := by decide +kernel
theorem dX4_reasonAgainstStep_23 : decode cX4_reasonAgainstStep 23 = .ok (.ireturn, 1) := by decide +kernel
theorem dX4_reasonAgainstStep_24 : decode cX4_reasonAgainstStep 24 = .ok (.aload_n 0, 1) := by decide +kernel
theorem dX4_reasonAgainstStep_25 : decode cX4_reasonAgainstStep 25 = .ok (.iload_n 1, 1) := by decide +kernel
theorem dX4_reasonAgainstStep_26 : decode cX4_reasonAgainstStep 26 = .ok (.iload_n 3, 1) := by decide +kernel
theorem dX4_reasonAgainstStep_27 : decode cX4_reasonAgainstStep 27 = .ok (.invokevirtual 48, 3) := by decide +kernel
theorem dX4_reasonAgainstStep_30 : decode cX4_reasonAgainstStep 30 = .ok (.istore 4, 2) := by decide +kernel
theorem dX4_reasonAgainstStep_32 : decode cX4_reasonAgainstStep 32 = .ok (.iload 4, 2) := by decide +kernel
theorem dX4_reasonAgainstStep_34 : decode cX4_reasonAgainstStep 34 = .ok (.iload_n 2, 1) := by decide +kernel
theorem dX4_reasonAgainstStep_35 : decode cX4_reasonAgainstStep 35 = .ok (.invokestatic 55, 3) := by decide +kernel
theorem dX4_reasonAgainstStep_38 : decode cX4_reasonAgainstStep 38 = .ok (.istore 5, 2) := by decide +kernel
theorem dX4_reasonAgainstStep_40 : decode cX4_reasonAgainstStep 40 = .ok (.iload 5, 2) := by decide +kernel
theorem dX4_reasonAgainstStep_42 : decode cX4_reasonAgainstStep 42 = .ok (.iconst (-1), 1) := by decide +kernel
theorem dX4_reasonAgainstStep_43 : decode cX4_reasonAgainstStep 43 = .ok (.if_icmp .ne 5, 3) := by decide +kernel
theorem dX4_reasonAgainstStep_46 : decode cX4_reasonAgainstStep 46 = .ok (.iconst 3, 1) := by decide +kernel
theorem dX4_reasonAgainstStep_47 : decode cX4_reasonAgainstStep 47 = .ok (.ireturn, 1) := by decide +kernel
theorem dX4_reasonAgainstStep_48 : decode cX4_reasonAgainstStep 48 = .ok (.iload_n 3, 1) := by decide +kernel
theorem dX4_reasonAgainstStep_49 : decode cX4_reasonAgainstStep 49 = .ok (.iconst 1, 1) := by decide +kernel
theorem dX4_reasonAgainstStep_50 : decode cX4_reasonAgainstStep 50 = .ok (.iadd, 1) := by decide +kernel
theorem dX4_reasonAgainstStep_51 : decode cX4_reasonAgainstStep 51 = .ok (.iconst 4, 1) := by decide +kernel
theorem dX4_reasonAgainstStep_52 : decode cX4_reasonAgainstStep 52 = .ok (.if_icmp .lt 18, 3) := by decide +kernel
theorem dX4_reasonAgainstStep_55 : decode cX4_reasonAgainstStep 55 = .ok (.iload 5, 2) := by decide +kernel
theorem dX4_reasonAgainstStep_57 : decode cX4_reasonAgainstStep 57 = .ok (.aload_n 0, 1) := by decide +kernel
theorem dX4_reasonAgainstStep_58 : decode cX4_reasonAgainstStep 58 = .ok (.iload_n 1, 1) := by decide +kernel
theorem dX4_reasonAgainstStep_59 : decode cX4_reasonAgainstStep 59 = .ok (.iconst 0, 1) := by decide +kernel
theorem dX4_reasonAgainstStep_60 : decode cX4_reasonAgainstStep 60 = .ok (.invokevirtual 48, 3) := by decide +kernel
theorem dX4_reasonAgainstStep_63 : decode cX4_reasonAgainstStep 63 = .ok (.if_icmp .ne 7, 3) := by decide +kernel
theorem dX4_reasonAgainstStep_66 : decode cX4_reasonAgainstStep 66 = .ok (.iconst 1, 1) := by decide +kernel
theorem dX4_reasonAgainstStep_67 : decode cX4_reasonAgainstStep 67 = .ok (.goto 4, 3) := by decide +kernel
theorem dX4_reasonAgainstStep_70 : decode cX4_reasonAgainstStep 70 = .ok (.iconst 0, 1) := by decide +kernel
theorem dX4_reasonAgainstStep_71 : decode cX4_reasonAgainstStep 71 = .ok (.istore 6, 2) := by decide +kernel
theorem dX4_reasonAgainstStep_73 : decode cX4_reasonAgainstStep 73 = .ok (.iload 6, 2) := by decide +kernel
theorem dX4_reasonAgainstStep_75 : decode cX4_reasonAgainstStep 75 = .ok (.ifCond .ne 15, 3) := by decide +kernel
theorem dX4_reasonAgainstStep_78 : decode cX4_reasonAgainstStep 78 = .ok (.aload_n 0, 1) := by decide +kernel
theorem dX4_reasonAgainstStep_79 : decode cX4_reasonAgainstStep 79 = .ok (.iload 5, 2) := by decide +kernel
theorem dX4_reasonAgainstStep_81 : decode cX4_reasonAgainstStep 81 = .ok (.invokevirtual 52, 3) := by decide +kernel
theorem dX4_reasonAgainstStep_84 : decode cX4_reasonAgainstStep 84 = .ok (.iconst (-1), 1) := by decide +kernel
theorem dX4_reasonAgainstStep_85 : decode cX4_reasonAgainstStep 85 = .ok (.if_icmp .eq 5, 3) := by decide +kernel
theorem dX4_reasonAgainstStep_88 : decode cX4_reasonAgainstStep 88 = .ok (.iconst 4, 1) := by decide +kernel
theorem dX4_reasonAgainstStep_89 : decode cX4_reasonAgainstStep 89 = .ok (.ireturn, 1) := by decide +kernel
theorem dX4_reasonAgainstStep_90 : decode cX4_reasonAgainstStep 90 = .ok (.aload_n 0, 1) := by decide +kernel
theorem dX4_reasonAgainstStep_91 : decode cX4_reasonAgainstStep 91 = .ok (.iload 4, 2) := by decide +kernel
theorem dX4_reasonAgainstStep_93 : decode cX4_reasonAgainstStep 93 = .ok (.iload_n 2, 1) := by decide +kernel
theorem dX4_reasonAgainstStep_94 : decode cX4_reasonAgainstStep 94 = .ok (.invokevirtual 69, 3) := by decide +kernel
theorem dX4_reasonAgainstStep_97 : decode cX4_reasonAgainstStep 97 = .ok (.ifCond .eq 7, 3) := by decide +kernel
theorem dX4_reasonAgainstStep_100 : decode cX4_reasonAgainstStep 100 = .ok (.iconst 5, 1) := by decide +kernel
theorem dX4_reasonAgainstStep_101 : decode cX4_reasonAgainstStep 101 = .ok (.goto 4, 3) := by decide +kernel
theorem dX4_reasonAgainstStep_104 : decode cX4_reasonAgainstStep 104 = .ok (.iconst 0, 1) := by decide +kernel
theorem dX4_reasonAgainstStep_105 : decode cX4_reasonAgainstStep 105 = .ok (.ireturn, 1) := by decide +kernel
set_option maxRecDepth 200000 in
theorem ggX4_crosses_X6_isDirection : GoodIn wsX4_crosses wsX6_isDirection := goodIn_r _ [4] rfl (by decide +kernel)
set_option maxRecDepth 200000 in
theorem gX4_crosses_X6_isDirection_n72 : GoodIn wsX4_crosses (wsX6_isDirection) := ggX4_crosses_X6_isDirection
set_option maxRecDepth 200000 in
theorem ggX4_crosses_X6_isSlanting : GoodIn wsX4_crosses wsX6_isSlanting := goodIn_r _ [6] rfl (by decide +kernel)
set_option maxRecDepth 200000 in
theorem gX4_crosses_X6_isSlanting_n75 : GoodIn wsX4_crosses (wsX6_isSlanting) := ggX4_crosses_X6_isSlanting
set_option maxRecDepth 200000 in
theorem ggX4_crosses_X4_joins : GoodIn wsX4_crosses wsX4_joins := goodIn_r _ [11, 12, 13, 14, 10, 15, 1, 16, 17, 18, 19, 20, 21, 22, 23, 24, 25, 26, 27] rfl (by decide +kernel)
set_option maxRecDepth 200000 in
theorem gX4_crosses_X4_joins : GoodIn wsX4_crosses (wsV RX4 84 RX4 yX4_joins wsX4_joins) := goodIn_app (goodIn_of _ (by decide +kernel)) ggX4_crosses_X4_joins
theorem dX4_crosses_0 : decode cX4_crosses 0 = .ok (.iload_n 2, 1) := by decide +kernel
theorem dX4_crosses_1 : decode cX4_crosses 1 = .ok (.invokestatic 72, 3) := by decide +kernel
theorem dX4_crosses_4 : decode cX4_crosses 4 = .ok (.ifCond .eq 10, 3) := by decide +kernel
theorem dX4_crosses_7 : decode cX4_crosses 7 = .ok (.iload_n 2, 1) := by decide +kernel
theorem dX4_crosses_8 : decode cX4_crosses 8 = .ok (.invokestatic 75, 3) := by decide +kernel
theorem dX4_crosses_11 : decode cX4_crosses 11 = .ok (.ifCond .ne 5, 3) := by decide +kernel
theorem dX4_crosses_14 : decode cX4_crosses 14 = .ok (.iconst 0, 1) := by decide +kernel
theorem dX4_crosses_15 : decode cX4_crosses 15 = .ok (.ireturn, 1) := by decide +kernel
theorem dX4_crosses_16 : decode cX4_crosses 16 = .ok (.iload_n 1, 1) := by decide +kernel
theorem dX4_crosses_17 : decode cX4_crosses 17 = .ok (.getstatic 78, 3) := by decide +kernel
theorem dX4_crosses_20 : decode cX4_crosses 20 = .ok (.iload_n 2, 1) := by decide +kernel
theorem dX4_crosses_21 : decode cX4_crosses 21 = .ok (.iaload, 1) := by decide +kernel
theorem dX4_crosses_22 : decode cX4_crosses 22 = .ok (.iadd, 1) := by decide +kernel
theorem dX4_crosses_23 : decode cX4_crosses 23 = .ok (.istore_n 3, 1) := by decide +kernel
theorem dX4_crosses_24 : decode cX4_crosses 24 = .ok (.iload_n 1, 1) := by decide +kernel
theorem dX4_crosses_25 : decode cX4_crosses 25 = .ok (.bipush 24, 2) := by decide +kernel
theorem dX4_crosses_27 : decode cX4_crosses 27 = .ok (.getstatic 81, 3) := by decide +kernel
theorem dX4_crosses_30 : decode cX4_crosses 30 = .ok (.iload_n 2, 1) := by decide +kernel
theorem dX4_crosses_31 : decode cX4_crosses 31 = .ok (.iaload, 1) := by decide +kernel
theorem dX4_crosses_32 : decode cX4_crosses 32 = .ok (.imul, 1) := by decide +kernel
theorem dX4_crosses_33 : decode cX4_crosses 33 = .ok (.iadd, 1) := by decide +kernel
theorem dX4_crosses_34 : decode cX4_crosses 34 = .ok (.istore 4, 2) := by decide +kernel
theorem dX4_crosses_36 : decode cX4_crosses 36 = .ok (.iconst 0, 1) := by decide +kernel
theorem dX4_crosses_37 : decode cX4_crosses 37 = .ok (.istore 5, 2) := by decide +kernel
theorem dX4_crosses_39 : decode cX4_crosses 39 = .ok (.iload 5, 2) := by decide +kernel
theorem dX4_crosses_41 : decode cX4_crosses 41 = .ok (.aload_n 0, 1) := by decide +kernel
theorem dX4_crosses_42 : decode cX4_crosses 42 = .ok (.getfield 28, 3) := by decide +kernel
theorem dX4_crosses_45 : decode cX4_crosses 45 = .ok (.if_icmp .ge 23, 3) := by decide +kernel
theorem dX4_crosses_48 : decode cX4_crosses 48 = .ok (.aload_n 0, 1) := by decide +kernel
theorem dX4_crosses_49 : decode cX4_crosses 49 = .ok (.iload 5, 2) := by decide +kernel
theorem dX4_crosses_51 : decode cX4_crosses 51 = .ok (.iload_n 3, 1) := by decide +kernel
theorem dX4_crosses_52 : decode cX4_crosses 52 = .ok (.iload 4, 2) := by decide +kernel
theorem dX4_crosses_54 : decode cX4_crosses 54 = .ok (.invokevirtual 84, 3) := by decide +kernel
theorem dX4_crosses_57 : decode cX4_crosses 57 = .ok (.ifCond .eq 5, 3) := by decide +kernel
theorem dX4_crosses_60 : decode cX4_crosses 60 = .ok (.iconst 1, 1) := by decide +kernel
theorem dX4_crosses_61 : decode cX4_crosses 61 = .ok (.ireturn, 1) := by decide +kernel
theorem dX4_crosses_62 : decode cX4_crosses 62 = .ok (.iinc 5 1, 3) := by decide +kernel
theorem dX4_crosses_65 : decode cX4_crosses 65 = .ok (.goto (-26), 3) := by decide +kernel
theorem dX4_crosses_68 : decode cX4_crosses 68 = .ok (.iconst 0, 1) := by decide +kernel
theorem dX4_crosses_69 : decode cX4_crosses 69 = .ok (.ireturn, 1) := by decide +kernel
set_option maxRecDepth 200000 in
theorem ggX4_joins_X4_stepCount : GoodIn wsX4_joins wsX4_stepCount := goodIn_r _ [5, 6, 7, 13, 14, 15, 16, 17, 18] rfl (by decide +kernel)
set_option maxRecDepth 200000 in
theorem gX4_joins_X4_stepCount : GoodIn wsX4_joins (wsV RX4 45 RX4 yX4_stepCount wsX4_stepCount) := goodIn_app (goodIn_of _ (by decide +kernel)) ggX4_joins_X4_stepCount
set_option maxRecDepth 200000 in
theorem ggX4_joins_X4_pointAt : GoodIn wsX4_joins wsX4_pointAt := goodIn_r _ [11, 6, 7, 12, 13, 14, 15, 16, 17, 18] rfl (by decide +kernel)
set_option maxRecDepth 200000 in
theorem gX4_joins_X4_pointAt : GoodIn wsX4_joins (wsV RX4 48 RX4 yX4_pointAt wsX4_pointAt) := goodIn_app (goodIn_of _ (by decide +kernel)) ggX4_joins_X4_pointAt
theorem dX4_joins_0 : decode cX4_joins 0 = .ok (.aload_n 0, 1) := by decide +kernel
theorem dX4_joins_1 : decode cX4_joins 1 = .ok (.iload_n 1, 1) := by decide +kernel
theorem dX4_joins_2 : decode cX4_joins 2 = .ok (.invokevirtual 45, 3) := by decide +kernel
theorem dX4_joins_5 : decode cX4_joins 5 = .ok (.istore 4, 2) := by decide +kernel
theorem dX4_joins_7 : decode cX4_joins 7 = .ok (.iconst 0, 1) := by decide +kernel
theorem dX4_joins_8 : decode cX4_joins 8 = .ok (.istore 5, 2) := by decide +kernel
theorem dX4_joins_10 : decode cX4_joins 10 = .ok (.iload 5, 2) := by decide +kernel
theorem dX4_joins_12 : decode cX4_joins 12 = .ok (.iload 4, 2) := by decide +kernel
theorem dX4_joins_14 : decode cX4_joins 14 = .ok (.if_icmp .ge 55, 3) := by decide +kernel
theorem dX4_joins_17 : decode cX4_joins 17 = .ok (.aload_n 0, 1) := by decide +kernel
theorem dX4_joins_18 : decode cX4_joins 18 = .ok (.iload_n 1, 1) := by decide +kernel
theorem dX4_joins_19 : decode cX4_joins 19 = .ok (.iload 5, 2) := by decide +kernel
theorem dX4_joins_21 : decode cX4_joins 21 = .ok (.invokevirtual 48, 3) := by decide +kernel
theorem dX4_joins_24 : decode cX4_joins 24 = .ok (.istore 6, 2) := by decide +kernel
theorem dX4_joins_26 : decode cX4_joins 26 = .ok (.aload_n 0, 1) := by decide +kernel
theorem dX4_joins_27 : decode cX4_joins 27 = .ok (.iload_n 1, 1) := by decide +kernel
theorem dX4_joins_28 : decode cX4_joins 28 = .ok (.iload 5, 2) := by decide +kernel
theorem dX4_joins_30 : decode cX4_joins 30 = .ok (.iconst 1, 1) := by decide +kernel
theorem dX4_joins_31 : decode cX4_joins 31 = .ok (.iadd, 1) := by decide +kernel
theorem dX4_joins_32 : decode cX4_joins 32 = .ok (.invokevirtual 48, 3) := by decide +kernel
theorem dX4_joins_35 : decode cX4_joins 35 = .ok (.istore 7, 2) := by decide +kernel
theorem dX4_joins_37 : decode cX4_joins 37 = .ok (.iload 6, 2) := by decide +kernel
theorem dX4_joins_39 : decode cX4_joins 39 = .ok (.iload_n 2, 1) := by decide +kernel
theorem dX4_joins_40 : decode cX4_joins 40 = .ok (.if_icmp .ne 9, 3) := by decide +kernel
theorem dX4_joins_43 : decode cX4_joins 43 = .ok (.iload 7, 2) := by decide +kernel
theorem dX4_joins_45 : decode cX4_joins 45 = .ok (.iload_n 3, 1) := by decide +kernel
theorem dX4_joins_46 : decode cX4_joins 46 = .ok (.if_icmp .eq 15, 3) := by decide +kernel
theorem dX4_joins_49 : decode cX4_joins 49 = .ok (.iload 6, 2) := by decide +kernel
theorem dX4_joins_51 : decode cX4_joins 51 = .ok (.iload_n 3, 1) := by decide +kernel
theorem dX4_joins_52 : decode cX4_joins 52 = .ok (.if_icmp .ne 11, 3) := by decide +kernel
theorem dX4_joins_55 : decode cX4_joins 55 = .ok (.iload 7, 2) := by decide +kernel
theorem dX4_joins_57 : decode cX4_joins 57 = .ok (.iload_n 2, 1) := by decide +kernel
theorem dX4_joins_58 : decode cX4_joins 58 = .ok (.if_icmp .ne 5, 3) := by decide +kernel
theorem dX4_joins_61 : decode cX4_joins 61 = .ok (.iconst 1, 1) := by decide +kernel
theorem dX4_joins_62 : decode cX4_joins 62 = .ok (.ireturn, 1) := by decide +kernel
theorem dX4_joins_63 : decode cX4_joins 63 = .ok (.iinc 5 1, 3) := by decide +kernel
theorem dX4_joins_66 : decode cX4_joins 66 = .ok (.goto (-56), 3) := by decide +kernel
theorem dX4_joins_69 : decode cX4_joins 69 = .ok (.iconst 0, 1) := by decide +kernel
theorem dX4_joins_70 : decode cX4_joins 70 = .ok (.ireturn, 1) := by decide +kernel
set_option maxRecDepth 200000 in
theorem ggX4_bendThere_X4_directionAt : GoodIn wsX4_bendThere wsX4_directionAt := goodIn_r _ [12, 13, 14, 15, 24, 25, 26, 27, 28, 29] rfl (by decide +kernel)
set_option maxRecDepth 200000 in
theorem gX4_bendThere_X4_directionAt : GoodIn wsX4_bendThere (wsV RX4 88 RX4 yX4_directionAt wsX4_directionAt) := goodIn_app (goodIn_of _ (by decide +kernel)) ggX4_bendThere_X4_directionAt
set_option maxRecDepth 200000 in
theorem ggX4_bendThere_X4_isRing : GoodIn wsX4_bendThere wsX4_isRing := goodIn_r _ [19, 13, 14, 15, 24, 25, 26, 27, 28, 29] rfl (by decide +kernel)
set_option maxRecDepth 200000 in
theorem gX4_bendThere_X4_isRing : GoodIn wsX4_bendThere (wsV RX4 66 RX4 yX4_isRing wsX4_isRing) := goodIn_app (goodIn_of _ (by decide +kernel)) ggX4_bendThere_X4_isRing
set_option maxRecDepth 200000 in
theorem ggX4_bendThere_X4_stepCount : GoodIn wsX4_bendThere wsX4_stepCount := goodIn_r _ [23, 13, 14, 24, 25, 26, 27, 28, 29] rfl (by decide +kernel)
set_option maxRecDepth 200000 in
theorem gX4_bendThere_X4_stepCount : GoodIn wsX4_bendThere (wsV RX4 45 RX4 yX4_stepCount wsX4_stepCount) := goodIn_app (goodIn_of _ (by decide +kernel)) ggX4_bendThere_X4_stepCount
theorem dX4_bendThere_0 : decode cX4_bendThere 0 = .ok (.aload_n 0, 1) := by decide +kernel
theorem dX4_bendThere_1 : decode cX4_bendThere 1 = .ok (.iload_n 1, 1) := by decide +kernel
theorem dX4_bendThere_2 : decode cX4_bendThere 2 = .ok (.iload_n 2, 1) := by decide +kernel
theorem dX4_bendThere_3 : decode cX4_bendThere 3 = .ok (.iconst 1, 1) := by decide +kernel
theorem dX4_bendThere_4 : decode cX4_bendThere 4 = .ok (.isub, 1) := by decide +kernel
theorem dX4_bendThere_5 : decode cX4_bendThere 5 = .ok (.invokevirtual 88, 3) := by decide +kernel
theorem dX4_bendThere_8 : decode cX4_bendThere 8 = .ok (.istore_n 3, 1) := by decide +kernel
theorem dX4_bendThere_9 : decode cX4_bendThere 9 = .ok (.aload_n 0, 1) := by decide +kernel
theorem dX4_bendThere_10 : decode cX4_bendThere 10 = .ok (.iload_n 1, 1) := by decide +kernel
theorem dX4_bendThere_11 : decode cX4_bendThere 11 = .ok (.iload_n 2, 1) := by decide +kernel
theorem dX4_bendThere_12 : decode cX4_bendThere 12 = .ok (.invokevirtual 88, 3) := by decide +kernel
theorem dX4_bendThere_15 : decode cX4_bendThere 15 = .ok (.istore 4, 2) := by decide +kernel
theorem dX4_bendThere_17 : decode cX4_bendThere 17 = .ok (.aload_n 0, 1) := by decide +kernel
theorem dX4_bendThere_18 : decode cX4_bendThere 18 = .ok (.iload_n 1, 1) := by decide +kernel
theorem dX4_bendThere_19 : decode cX4_bendThere 19 = .ok (.invokevirtual 66, 3) := by decide +kernel
theorem dX4_bendThere_22 : decode cX4_bendThere 22 = .ok (.ifCond .eq 41, 3) := by decide +kernel
theorem dX4_bendThere_25 : decode cX4_bendThere 25 = .ok (.aload_n 0, 1) := by decide +kernel
theorem dX4_bendThere_26 : decode cX4_bendThere 26 = .ok (.iload_n 1, 1) := by decide +kernel
theorem dX4_bendThere_27 : decode cX4_bendThere 27 = .ok (.invokevirtual 45, 3) := by decide +kernel
theorem dX4_bendThere_30 : decode cX4_bendThere 30 = .ok (.istore 5, 2) := by decide +kernel
theorem dX4_bendThere_32 : decode cX4_bendThere 32 = .ok (.iload_n 2, 1) := by decide +kernel
theorem dX4_bendThere_33 : decode cX4_bendThere 33 = .ok (.ifCond .ne 16, 3) := by decide +kernel
theorem dX4_bendThere_36 : decode cX4_bendThere 36 = .ok (.aload_n 0, 1) := by decide +kernel
theorem dX4_bendThere_37 : decode cX4_bendThere 37 = .ok (.iload_n 1, 1) := by decide +kernel
theorem dX4_bendThere_38 : decode cX4_bendThere 38 = .ok (.iload 5, 2) := by decide +kernel
theorem dX4_bendThere_40 : decode cX4_bendThere 40 = .ok (.iconst 1, 1) := by decide +kernel
theorem dX4_bendThere_41 : decode cX4_bendThere 41 = .ok (.isub, 1) := by decide +kernel
theorem dX4_bendThere_42 : decode cX4_bendThere 42 = .ok (.invokevirtual 88, 3) := by decide +kernel
theorem dX4_bendThere_45 : decode cX4_bendThere 45 = .ok (.istore_n 3, 1) := by decide +kernel
theorem dX4_bendThere_46 : decode cX4_bendThere 46 = .ok (.goto 17, 3) := by decide +kernel
theorem dX4_bendThere_49 : decode cX4_bendThere 49 = .ok (.iload_n 2, 1) := by decide +kernel
theorem dX4_bendThere_50 : decode cX4_bendThere 50 = .ok (.iload 5, 2) := by decide +kernel
theorem dX4_bendThere_52 : decode cX4_bendThere 52 = .ok (.if_icmp .ne 11, 3) := by decide +kernel
theorem dX4_bendThere_55 : decode cX4_bendThere 55 = .ok (.aload_n 0, 1) := by decide +kernel
theorem dX4_bendThere_56 : decode cX4_bendThere 56 = .ok (.iload_n 1, 1) := by decide +kernel
theorem dX4_bendThere_57 : decode cX4_bendThere 57 = .ok (.iconst 0, 1) := by decide +kernel
theorem dX4_bendThere_58 : decode cX4_bendThere 58 = .ok (.invokevirtual 88, 3) := by decide +kernel
theorem dX4_bendThere_61 : decode cX4_bendThere 61 = .ok (.istore 4, 2) := by decide +kernel
theorem dX4_bendThere_63 : decode cX4_bendThere 63 = .ok (.iload_n 3, 1) := by decide +kernel
theorem dX4_bendThere_64 : decode cX4_bendThere 64 = .ok (.iconst (-1), 1) := by decide +kernel
theorem dX4_bendThere_65 : decode cX4_bendThere 65 = .ok (.if_icmp .eq 9, 3) := by decide +kernel
theorem dX4_bendThere_68 : decode cX4_bendThere 68 = .ok (.iload 4, 2) := by decide +kernel
theorem dX4_bendThere_70 : decode cX4_bendThere 70 = .ok (.iconst (-1), 1) := by decide +kernel
theorem dX4_bendThere_71 : decode cX4_bendThere 71 = .ok (.if_icmp .ne 5, 3) := by decide +kernel
theorem dX4_bendThere_74 : decode cX4_bendThere 74 = .ok (.iconst 0, 1) := by decide +kernel
theorem dX4_bendThere_75 : decode cX4_bendThere 75 = .ok (.ireturn, 1) := by decide +kernel
theorem dX4_bendThere_76 : decode cX4_bendThere 76 = .ok (.iload 4, 2) := by decide +kernel
theorem dX4_bendThere_78 : decode cX4_bendThere 78 = .ok (.iload_n 3, 1) := by decide +kernel
theorem dX4_bendThere_79 : decode cX4_bendThere 79 = .ok (.isub, 1) := by decide +kernel
theorem dX4_bendThere_80 : decode cX4_bendThere 80 = .ok (.invokestatic 91, 3) := by decide +kernel
theorem dX4_bendThere_83 : decode cX4_bendThere 83 = .ok (.istore 5, 2) := by decide +kernel
theorem dX4_bendThere_85 : decode cX4_bendThere 85 = .ok (.iload 5, 2) := by decide +kernel
theorem dX4_bendThere_87 : decode cX4_bendThere 87 = .ok (.bipush 8, 2) := by decide +kernel
theorem dX4_bendThere_89 : decode cX4_bendThere 89 = .ok (.iload 5, 2) := by decide +kernel
theorem dX4_bendThere_91 : decode cX4_bendThere 91 = .ok (.isub, 1) := by decide +kernel
theorem dX4_bendThere_92 : decode cX4_bendThere 92 = .ok (.invokestatic 96, 3) := by decide +kernel
theorem dX4_bendThere_95 : decode cX4_bendThere 95 = .ok (.ireturn, 1) := by decide +kernel
set_option maxRecDepth 200000 in
theorem ggX4_lineOfRank_X4_countAhead : GoodIn wsX4_lineOfRank wsX4_countAhead := goodIn_r _ [6, 1, 7, 8, 9, 5, 10, 11, 12, 13, 14, 15, 16, 17] rfl (by decide +kernel)
set_option maxRecDepth 200000 in
theorem gX4_lineOfRank_X4_countAhead : GoodIn wsX4_lineOfRank (wsV RX4 99 RX4 yX4_countAhead wsX4_countAhead) := goodIn_app (goodIn_of _ (by decide +kernel)) ggX4_lineOfRank_X4_countAhead
theorem dX4_lineOfRank_0 : decode cX4_lineOfRank 0 = .ok (.iconst 0, 1) := by decide +kernel
theorem dX4_lineOfRank_1 : decode cX4_lineOfRank 1 = .ok (.istore_n 2, 1) := by decide +kernel
theorem dX4_lineOfRank_2 : decode cX4_lineOfRank 2 = .ok (.iload_n 2, 1) := by decide +kernel
theorem dX4_lineOfRank_3 : decode cX4_lineOfRank 3 = .ok (.aload_n 0, 1) := by decide +kernel
theorem dX4_lineOfRank_4 : decode cX4_lineOfRank 4 = .ok (.getfield 28, 3) := by decide +kernel
theorem dX4_lineOfRank_7 : decode cX4_lineOfRank 7 = .ok (.if_icmp .ge 20, 3) := by decide +kernel
theorem dX4_lineOfRank_10 : decode cX4_lineOfRank 10 = .ok (.aload_n 0, 1) := by decide +kernel
theorem dX4_lineOfRank_11 : decode cX4_lineOfRank 11 = .ok (.iload_n 2, 1) := by decide +kernel
theorem dX4_lineOfRank_12 : decode cX4_lineOfRank 12 = .ok (.invokevirtual 99, 3) := by decide +kernel
theorem dX4_lineOfRank_15 : decode cX4_lineOfRank 15 = .ok (.iload_n 1, 1) := by decide +kernel
theorem dX4_lineOfRank_16 : decode cX4_lineOfRank 16 = .ok (.if_icmp .ne 5, 3) := by decide +kernel
theorem dX4_lineOfRank_19 : decode cX4_lineOfRank 19 = .ok (.iload_n 2, 1) := by decide +kernel
theorem dX4_lineOfRank_20 : decode cX4_lineOfRank 20 = .ok (.ireturn, 1) := by decide +kernel
theorem dX4_lineOfRank_21 : decode cX4_lineOfRank 21 = .ok (.iinc 2 1, 3) := by decide +kernel
theorem dX4_lineOfRank_24 : decode cX4_lineOfRank 24 = .ok (.goto (-22), 3) := by decide +kernel
theorem dX4_lineOfRank_27 : decode cX4_lineOfRank 27 = .ok (.iconst (-1), 1) := by decide +kernel
theorem dX4_lineOfRank_28 : decode cX4_lineOfRank 28 = .ok (.ireturn, 1) := by decide +kernel
set_option maxRecDepth 200000 in
theorem ggX4_countAhead_X4_levelIn : GoodIn wsX4_countAhead wsX4_levelIn := goodIn_r _ [6, 1, 7, 8, 9, 10, 11, 12, 13] rfl (by decide +kernel)
set_option maxRecDepth 200000 in
theorem gX4_countAhead_X4_levelIn : GoodIn wsX4_countAhead (wsV RX4 102 RX4 yX4_levelIn wsX4_levelIn) := goodIn_app (goodIn_of _ (by decide +kernel)) ggX4_countAhead_X4_levelIn
theorem dX4_countAhead_0 : decode cX4_countAhead 0 = .ok (.aload_n 0, 1) := by decide +kernel
theorem dX4_countAhead_1 : decode cX4_countAhead 1 = .ok (.iload_n 1, 1) := by decide +kernel
theorem dX4_countAhead_2 : decode cX4_countAhead 2 = .ok (.invokevirtual 102, 3) := by decide +kernel
theorem dX4_countAhead_5 : decode cX4_countAhead 5 = .ok (.istore_n 2, 1) := by decide +kernel
theorem dX4_countAhead_6 : decode cX4_countAhead 6 = .ok (.iconst 0, 1) := by decide +kernel
theorem dX4_countAhead_7 : decode cX4_countAhead 7 = .ok (.istore_n 3, 1) := by decide +kernel
theorem dX4_countAhead_8 : decode cX4_countAhead 8 = .ok (.iconst 0, 1) := by decide +kernel
theorem dX4_countAhead_9 : decode cX4_countAhead 9 = .ok (.istore 4, 2) := by decide +kernel
theorem dX4_countAhead_11 : decode cX4_countAhead 11 = .ok (.iload 4, 2) := by decide +kernel
theorem dX4_countAhead_13 : decode cX4_countAhead 13 = .ok (.aload_n 0, 1) := by decide +kernel
theorem dX4_countAhead_14 : decode cX4_countAhead 14 = .ok (.getfield 28, 3) := by decide +kernel
theorem dX4_countAhead_17 : decode cX4_countAhead 17 = .ok (.if_icmp .ge 38, 3) := by decide +kernel
theorem dX4_countAhead_20 : decode cX4_countAhead 20 = .ok (.aload_n 0, 1) := by decide +kernel
theorem dX4_countAhead_21 : decode cX4_countAhead 21 = .ok (.iload 4, 2) := by decide +kernel
theorem dX4_countAhead_23 : decode cX4_countAhead 23 = .ok (.invokevirtual 102, 3) := by decide +kernel
theorem dX4_countAhead_26 : decode cX4_countAhead 26 = .ok (.istore 5, 2) := by decide +kernel
theorem dX4_countAhead_28 : decode cX4_countAhead 28 = .ok (.iload 5, 2) := by decide +kernel
theorem dX4_countAhead_30 : decode cX4_countAhead 30 = .ok (.iload_n 2, 1) := by decide +kernel
theorem dX4_countAhead_31 : decode cX4_countAhead 31 = .ok (.if_icmp .lt 15, 3) := by decide +kernel
theorem dX4_countAhead_34 : decode cX4_countAhead 34 = .ok (.iload 5, 2) := by decide +kernel
theorem dX4_countAhead_36 : decode cX4_countAhead 36 = .ok (.iload_n 2, 1) := by decide +kernel
theorem dX4_countAhead_37 : decode cX4_countAhead 37 = .ok (.if_icmp .ne 12, 3) := by decide +kernel
theorem dX4_countAhead_40 : decode cX4_countAhead 40 = .ok (.iload 4, 2) := by decide +kernel
theorem dX4_countAhead_42 : decode cX4_countAhead 42 = .ok (.iload_n 1, 1) := by decide +kernel
theorem dX4_countAhead_43 : decode cX4_countAhead 43 = .ok (.if_icmp .ge 6, 3) := by decide +kernel
theorem dX4_countAhead_46 : decode cX4_countAhead 46 = .ok (.iinc 3 1, 3) := by decide +kernel
theorem dX4_countAhead_49 : decode cX4_countAhead 49 = .ok (.iinc 4 1, 3) := by decide +kernel
theorem dX4_countAhead_52 : decode cX4_countAhead 52 = .ok (.goto (-41), 3) := by decide +kernel
theorem dX4_countAhead_55 : decode cX4_countAhead 55 = .ok (.iload_n 3, 1) := by decide +kernel
theorem dX4_countAhead_56 : decode cX4_countAhead 56 = .ok (.ireturn, 1) := by decide +kernel
set_option maxRecDepth 200000 in
theorem ggX5_goesRound_X4_isRing : GoodIn wsX5_goesRound wsX4_isRing := goodIn_r _ [5, 6, 7, 8, 32, 33, 34, 35, 36, 37] rfl (by decide +kernel)
set_option maxRecDepth 200000 in
theorem gX5_goesRound_X4_isRing : GoodIn wsX5_goesRound (wsV RX5 9 RX4 yX4_isRing wsX4_isRing) := goodIn_app (goodIn_of _ (by decide +kernel)) ggX5_goesRound_X4_isRing
set_option maxRecDepth 200000 in
theorem ggX5_goesRound_X4_isOn : GoodIn wsX5_goesRound wsX4_isOn := goodIn_r _ [12, 13, 14, 15, 4, 16, 6, 7, 17, 18, 19, 20, 8, 32, 33, 34, 35, 36, 37] rfl (by decide +kernel)
set_option maxRecDepth 200000 in
theorem gX5_goesRound_X4_isOn : GoodIn wsX5_goesRound (wsV RX5 15 RX4 yX4_isOn wsX4_isOn) := goodIn_app (goodIn_of _ (by decide +kernel)) ggX5_goesRound_X4_isOn
set_option maxRecDepth 200000 in
theorem ggX5_goesRound_X5_stepsToTheRight : GoodIn wsX5_goesRound wsX5_stepsToTheRight := goodIn_r _ [24, 25, 26, 27, 28, 29, 30, 14, 15, 4, 16, 6, 7, 31, 18, 19, 20, 8, 32, 33, 34, 35, 36, 37] rfl (by decide +kernel)
set_option maxRecDepth 200000 in
theorem gX5_goesRound_X5_stepsToTheRight : GoodIn wsX5_goesRound (va_wsS RX5 19 yX5_stepsToTheRight wsX5_stepsToTheRight) := goodIn_app (goodIn_of _ (by decide +kernel)) ggX5_goesRound_X5_stepsToTheRight
theorem dX5_goesRound_0 : decode cX5_goesRound 0 = .ok (.aload_n 0, 1) := by decide +kernel
theorem dX5_goesRound_1 : decode cX5_goesRound 1 = .ok (.iload_n 1, 1) := by decide +kernel
theorem dX5_goesRound_2 : decode cX5_goesRound 2 = .ok (.invokevirtual 9, 3) := by decide +kernel
theorem dX5_goesRound_5 : decode cX5_goesRound 5 = .ok (.ifCond .eq 12, 3) := by decide +kernel
theorem dX5_goesRound_8 : decode cX5_goesRound 8 = .ok (.aload_n 0, 1) := by decide +kernel
theorem dX5_goesRound_9 : decode cX5_goesRound 9 = .ok (.iload_n 1, 1) := by decide +kernel
theorem dX5_goesRound_10 : decode cX5_goesRound 10 = .ok (.iload_n 2, 1) := by decide +kernel
theorem dX5_goesRound_11 : decode cX5_goesRound 11 = .ok (.invokevirtual 15, 3) := by decide +kernel
theorem dX5_goesRound_14 : decode cX5_goesRound 14 = .ok (.ifCond .eq 5, 3) := by decide +kernel
theorem dX5_goesRound_17 : decode cX5_goesRound 17 = .ok (.iconst 0, 1) := by decide +kernel
theorem dX5_goesRound_18 : decode cX5_goesRound 18 = .ok (.ireturn, 1) := by decide +kernel
theorem dX5_goesRound_19 : decode cX5_goesRound 19 = .ok (.aload_n 0, 1) := by decide +kernel
theorem dX5_goesRound_20 : decode cX5_goesRound 20 = .ok (.iload_n 1, 1) := by decide +kernel
theorem dX5_goesRound_21 : decode cX5_goesRound 21 = .ok (.iload_n 2, 1) := by decide +kernel
theorem dX5_goesRound_22 : decode cX5_goesRound 22 = .ok (.invokestatic 19, 3) := by decide +kernel
theorem dX5_goesRound_25 : decode cX5_goesRound 25 = .ok (.iconst 1, 1) := by decide +kernel
theorem dX5_goesRound_26 : decode cX5_goesRound 26 = .ok (.iand, 1) := by decide +kernel
theorem dX5_goesRound_27 : decode cX5_goesRound 27 = .ok (.ifCond .eq 7, 3) := by decide +kernel
theorem dX5_goesRound_30 : decode cX5_goesRound 30 = .ok (.iconst 1, 1) := by decide +kernel
theorem dX5_goesRound_31 : decode cX5_goesRound 31 = .ok (.goto 4, 3) := by decide +kernel
theorem dX5_goesRound_34 : decode cX5_goesRound 34 = .ok (.iconst 0, 1) := by decide +kernel
theorem dX5_goesRound_35 : decode cX5_goesRound 35 = .ok (.ireturn, 1) := by decide +kernel
set_option maxRecDepth 200000 in
theorem ggX5_stepsToTheRight_X6_rowOf : GoodIn wsX5_stepsToTheRight wsX6_rowOf := goodIn_r _ [3] rfl (by decide +kernel)
set_option maxRecDepth 200000 in
theorem gX5_stepsToTheRight_X6_rowOf_n25 : GoodIn wsX5_stepsToTheRight (wsX6_rowOf) := ggX5_stepsToTheRight_X6_rowOf
set_option maxRecDepth 200000 in
theorem ggX5_stepsToTheRight_X6_columnOf : GoodIn wsX5_stepsToTheRight wsX6_columnOf := goodIn_r _ [5] rfl (by decide +kernel)
set_option maxRecDepth 200000 in
theorem gX5_stepsToTheRight_X6_columnOf_n29 : GoodIn wsX5_stepsToTheRight (wsX6_columnOf) := ggX5_stepsToTheRight_X6_columnOf
set_option maxRecDepth 200000 in
theorem ggX5_stepsToTheRight_X4_stepCount : GoodIn wsX5_stepsToTheRight wsX4_stepCount := goodIn_r _ [10, 11, 12, 18, 19, 20, 21, 22, 23] rfl (by decide +kernel)
set_option maxRecDepth 200000 in
theorem gX5_stepsToTheRight_X4_stepCount : GoodIn wsX5_stepsToTheRight (wsV RX5 32 RX4 yX4_stepCount wsX4_stepCount) := goodIn_app (goodIn_of _ (by decide +kernel)) ggX5_stepsToTheRight_X4_stepCount
set_option maxRecDepth 200000 in
theorem ggX5_stepsToTheRight_X4_pointAt : GoodIn wsX5_stepsToTheRight wsX4_pointAt := goodIn_r _ [16, 11, 12, 17, 18, 19, 20, 21, 22, 23] rfl (by decide +kernel)
set_option maxRecDepth 200000 in
theorem gX5_stepsToTheRight_X4_pointAt : GoodIn wsX5_stepsToTheRight (wsV RX5 35 RX4 yX4_pointAt wsX4_pointAt) := goodIn_app (goodIn_of _ (by decide +kernel)) ggX5_stepsToTheRight_X4_pointAt
theorem dX5_stepsToTheRight_0 : decode cX5_stepsToTheRight 0 = .ok (.iload_n 2, 1) := by decide +kernel
theorem dX5_stepsToTheRight_1 : decode cX5_stepsToTheRight 1 = .ok (.invokestatic 25, 3) := by decide +kernel
theorem dX5_stepsToTheRight_4 : decode cX5_stepsToTheRight 4 = .ok (.istore_n 3, 1) := by decide +kernel
theorem dX5_stepsToTheRight_5 : decode cX5_stepsToTheRight 5 = .ok (.iload_n 2, 1) := by decide +kernel
theorem dX5_stepsToTheRight_6 : decode cX5_stepsToTheRight 6 = .ok (.invokestatic 29, 3) := by decide +kernel
theorem dX5_stepsToTheRight_9 : decode cX5_stepsToTheRight 9 = .ok (.istore 4, 2) := by decide +kernel
theorem dX5_stepsToTheRight_11 : decode cX5_stepsToTheRight 11 = .ok (.aload_n 0, 1) := by decide +kernel
theorem dX5_stepsToTheRight_12 : decode cX5_stepsToTheRight 12 = .ok (.iload_n 1, 1) := by decide +kernel
theorem dX5_stepsToTheRight_13 : decode cX5_stepsToTheRight 13 = .ok (.invokevirtual 32, 3) := by decide +kernel
theorem dX5_stepsToTheRight_16 : decode cX5_stepsToTheRight 16 = .ok (.istore 5, 2) := by decide +kernel
theorem dX5_stepsToTheRight_18 : decode cX5_stepsToTheRight 18 = .ok (.iconst 0, 1) := by decide +kernel
theorem dX5_stepsToTheRight_19 : decode cX5_stepsToTheRight 19 = .ok (.istore 6, 2) := by decide +kernel
theorem dX5_stepsToTheRight_21 : decode cX5_stepsToTheRight 21 = .ok (.iconst 0, 1) := by decide +kernel
theorem dX5_stepsToTheRight_22 : decode cX5_stepsToTheRight 22 = .ok (.istore 7, 2) := by decide +kernel
theorem dX5_stepsToTheRight_24 : decode cX5_stepsToTheRight 24 = .ok (.iload 7, 2) := by decide +kernel
theorem dX5_stepsToTheRight_26 : decode cX5_stepsToTheRight 26 = .ok (.iload 5, 2) := by decide +kernel
theorem dX5_stepsToTheRight_28 : decode cX5_stepsToTheRight 28 = .ok (.if_icmp .ge 98, 3) := by decide +kernel
theorem dX5_stepsToTheRight_31 : decode cX5_stepsToTheRight 31 = .ok (.aload_n 0, 1) := by decide +kernel
theorem dX5_stepsToTheRight_32 : decode cX5_stepsToTheRight 32 = .ok (.iload_n 1, 1) := by decide +kernel
theorem dX5_stepsToTheRight_33 : decode cX5_stepsToTheRight 33 = .ok (.iload 7, 2) := by decide +kernel
theorem dX5_stepsToTheRight_35 : decode cX5_stepsToTheRight 35 = .ok (.invokevirtual 35, 3) := by decide +kernel
theorem dX5_stepsToTheRight_38 : decode cX5_stepsToTheRight 38 = .ok (.istore 8, 2) := by decide +kernel
theorem dX5_stepsToTheRight_40 : decode cX5_stepsToTheRight 40 = .ok (.aload_n 0, 1) := by decide +kernel
theorem dX5_stepsToTheRight_41 : decode cX5_stepsToTheRight 41 = .ok (.iload_n 1, 1) := by decide +kernel
theorem dX5_stepsToTheRight_42 : decode cX5_stepsToTheRight 42 = .ok (.iload 7, 2) := by decide +kernel
theorem dX5_stepsToTheRight_44 : decode cX5_stepsToTheRight 44 = .ok (.iconst 1, 1) := by decide +kernel
theorem dX5_stepsToTheRight_45 : decode cX5_stepsToTheRight 45 = .ok (.iadd, 1) := by decide +kernel
theorem dX5_stepsToTheRight_46 : decode cX5_stepsToTheRight 46 = .ok (.invokevirtual 35, 3) := by decide +kernel
theorem dX5_stepsToTheRight_49 : decode cX5_stepsToTheRight 49 = .ok (.istore 9, 2) := by decide +kernel
theorem dX5_stepsToTheRight_51 : decode cX5_stepsToTheRight 51 = .ok (.iload 8, 2) := by decide +kernel
theorem dX5_stepsToTheRight_53 : decode cX5_stepsToTheRight 53 = .ok (.invokestatic 25, 3) := by decide +kernel
theorem dX5_stepsToTheRight_56 : decode cX5_stepsToTheRight 56 = .ok (.iload 9, 2) := by decide +kernel
theorem dX5_stepsToTheRight_58 : decode cX5_stepsToTheRight 58 = .ok (.invokestatic 25, 3) := by decide +kernel
theorem dX5_stepsToTheRight_61 : decode cX5_stepsToTheRight 61 = .ok (.if_icmp .ge 8, 3) := by decide +kernel
theorem dX5_stepsToTheRight_64 : decode cX5_stepsToTheRight 64 = .ok (.iload 8, 2) := by decide +kernel
theorem dX5_stepsToTheRight_66 : decode cX5_stepsToTheRight 66 = .ok (.goto 5, 3) := by decide +kernel
theorem dX5_stepsToTheRight_69 : decode cX5_stepsToTheRight 69 = .ok (.iload 9, 2) := by decide +kernel
theorem dX5_stepsToTheRight_71 : decode cX5_stepsToTheRight 71 = .ok (.istore 10, 2) := by decide +kernel
theorem dX5_stepsToTheRight_73 : decode cX5_stepsToTheRight 73 = .ok (.iload 10, 2) := by decide +kernel
theorem dX5_stepsToTheRight_75 : decode cX5_stepsToTheRight 75 = .ok (.invokestatic 25, 3) := by decide +kernel
theorem dX5_stepsToTheRight_78 : decode cX5_stepsToTheRight 78 = .ok (.iload_n 3, 1) := by decide +kernel
theorem dX5_stepsToTheRight_79 : decode cX5_stepsToTheRight 79 = .ok (.if_icmp .ne 20, 3) := by decide +kernel
theorem dX5_stepsToTheRight_82 : decode cX5_stepsToTheRight 82 = .ok (.iload 8, 2) := by decide +kernel
theorem dX5_stepsToTheRight_84 : decode cX5_stepsToTheRight 84 = .ok (.invokestatic 25, 3) := by decide +kernel
theorem dX5_stepsToTheRight_87 : decode cX5_stepsToTheRight 87 = .ok (.iload 9, 2) := by decide +kernel
theorem dX5_stepsToTheRight_89 : decode cX5_stepsToTheRight 89 = .ok (.invokestatic 25, 3) := by decide +kernel
theorem dX5_stepsToTheRight_92 : decode cX5_stepsToTheRight 92 = .ok (.if_icmp .eq 7, 3) := by decide +kernel
theorem dX5_stepsToTheRight_95 : decode cX5_stepsToTheRight 95 = .ok (.iconst 1, 1) := by decide +kernel
theorem dX5_stepsToTheRight_96 : decode cX5_stepsToTheRight 96 = .ok (.goto 4, 3) := by decide +kernel
theorem dX5_stepsToTheRight_99 : decode cX5_stepsToTheRight 99 = .ok (.iconst 0, 1) := by decide +kernel
theorem dX5_stepsToTheRight_100 : decode cX5_stepsToTheRight 100 = .ok (.istore 11, 2) := by decide +kernel
theorem dX5_stepsToTheRight_102 : decode cX5_stepsToTheRight 102 = .ok (.iload 11, 2) := by decide +kernel
theorem dX5_stepsToTheRight_104 : decode cX5_stepsToTheRight 104 = .ok (.ifCond .eq 16, 3) := by decide +kernel
theorem dX5_stepsToTheRight_107 : decode cX5_stepsToTheRight 107 = .ok (.iload 10, 2) := by decide +kernel
theorem dX5_stepsToTheRight_109 : decode cX5_stepsToTheRight 109 = .ok (.invokestatic 29, 3) := by decide +kernel
theorem dX5_stepsToTheRight_112 : decode cX5_stepsToTheRight 112 = .ok (.iload 4, 2) := by decide +kernel
theorem dX5_stepsToTheRight_114 : decode cX5_stepsToTheRight 114 = .ok (.if_icmp .le 6, 3) := by decide +kernel
theorem dX5_stepsToTheRight_117 : decode cX5_stepsToTheRight 117 = .ok (.iinc 6 1, 3) := by decide +kernel
theorem dX5_stepsToTheRight_120 : decode cX5_stepsToTheRight 120 = .ok (.iinc 7 1, 3) := by decide +kernel
theorem dX5_stepsToTheRight_123 : decode cX5_stepsToTheRight 123 = .ok (.goto (-99), 3) := by decide +kernel
theorem dX5_stepsToTheRight_126 : decode cX5_stepsToTheRight 126 = .ok (.iload 6, 2) := by decide +kernel
theorem dX5_stepsToTheRight_128 : decode cX5_stepsToTheRight 128 = .ok (.ireturn, 1) := by decide +kernel
set_option maxRecDepth 200000 in
theorem ggX5_innermostRound_X4_pointAt : GoodIn wsX5_innermostRound wsX4_pointAt := goodIn_r _ [5, 6, 7, 8, 39, 40, 41, 42, 43, 44] rfl (by decide +kernel)
set_option maxRecDepth 200000 in
theorem gX5_innermostRound_X4_pointAt : GoodIn wsX5_innermostRound (wsV RX5 35 RX4 yX4_pointAt wsX4_pointAt) := goodIn_app (goodIn_of _ (by decide +kernel)) ggX5_innermostRound_X4_pointAt
set_option maxRecDepth 200000 in
theorem ggX5_innermostRound_X4_lineCount : GoodIn wsX5_innermostRound wsX4_lineCount := goodIn_r _ [12, 6, 39, 40, 41, 42, 43, 44] rfl (by decide +kernel)
set_option maxRecDepth 200000 in
theorem gX5_innermostRound_X4_lineCount : GoodIn wsX5_innermostRound (wsV RX5 39 RX4 yX4_lineCount wsX4_lineCount) := goodIn_app (goodIn_of _ (by decide +kernel)) ggX5_innermostRound_X4_lineCount
set_option maxRecDepth 200000 in
theorem ggX5_innermostRound_X5_goesRound : GoodIn wsX5_innermostRound wsX5_goesRound := goodIn_r _ [16, 17, 18, 19, 4, 20, 6, 7, 8, 21, 22, 23, 24, 25, 26, 27, 28, 29, 2, 3, 5, 30, 31, 15, 32, 33, 34, 35, 36, 37, 38, 1, 39, 40, 41, 42, 43, 44] rfl (by decide +kernel)
set_option maxRecDepth 200000 in
theorem gX5_innermostRound_X5_goesRound : GoodIn wsX5_innermostRound (va_wsS RX5 43 yX5_goesRound wsX5_goesRound) := goodIn_app (goodIn_of _ (by decide +kernel)) ggX5_innermostRound_X5_goesRound
theorem dX5_innermostRound_0 : decode cX5_innermostRound 0 = .ok (.aload_n 0, 1) := by decide +kernel
theorem dX5_innermostRound_1 : decode cX5_innermostRound 1 = .ok (.iload_n 1, 1) := by decide +kernel
theorem dX5_innermostRound_2 : decode cX5_innermostRound 2 = .ok (.iconst 0, 1) := by decide +kernel
theorem dX5_innermostRound_3 : decode cX5_innermostRound 3 = .ok (.invokevirtual 35, 3) := by decide +kernel
theorem dX5_innermostRound_6 : decode cX5_innermostRound 6 = .ok (.istore_n 2, 1) := by decide +kernel
theorem dX5_innermostRound_7 : decode cX5_innermostRound 7 = .ok (.iconst (-1), 1) := by decide +kernel
theorem dX5_innermostRound_8 : decode cX5_innermostRound 8 = .ok (.istore_n 3, 1) := by decide +kernel
theorem dX5_innermostRound_9 : decode cX5_innermostRound 9 = .ok (.iconst 0, 1) := by decide +kernel
theorem dX5_innermostRound_10 : decode cX5_innermostRound 10 = .ok (.istore 4, 2) := by decide +kernel
theorem dX5_innermostRound_12 : decode cX5_innermostRound 12 = .ok (.iload 4, 2) := by decide +kernel
theorem dX5_innermostRound_14 : decode cX5_innermostRound 14 = .ok (.aload_n 0, 1) := by decide +kernel
theorem dX5_innermostRound_15 : decode cX5_innermostRound 15 = .ok (.invokevirtual 39, 3) := by decide +kernel
theorem dX5_innermostRound_18 : decode cX5_innermostRound 18 = .ok (.if_icmp .ge 42, 3) := by decide +kernel
theorem dX5_innermostRound_21 : decode cX5_innermostRound 21 = .ok (.aload_n 0, 1) := by decide +kernel
theorem dX5_innermostRound_22 : decode cX5_innermostRound 22 = .ok (.iload 4, 2) := by decide +kernel
theorem dX5_innermostRound_24 : decode cX5_innermostRound 24 = .ok (.iload_n 2, 1) := by decide +kernel
theorem dX5_innermostRound_25 : decode cX5_innermostRound 25 = .ok (.invokestatic 43, 3) := by decide +kernel
theorem dX5_innermostRound_28 : decode cX5_innermostRound 28 = .ok (.ifCond .eq 26, 3) := by decide +kernel
theorem dX5_innermostRound_31 : decode cX5_innermostRound 31 = .ok (.iload_n 3, 1) := by decide +kernel
theorem dX5_innermostRound_32 : decode cX5_innermostRound 32 = .ok (.iconst (-1), 1) := by decide +kernel
theorem dX5_innermostRound_33 : decode cX5_innermostRound 33 = .ok (.if_icmp .eq 18, 3) := by decide +kernel
theorem dX5_innermostRound_36 : decode cX5_innermostRound 36 = .ok (.aload_n 0, 1) := by decide +kernel
theorem dX5_innermostRound_37 : decode cX5_innermostRound 37 = .ok (.iload_n 3, 1) := by decide +kernel
theorem dX5_innermostRound_38 : decode cX5_innermostRound 38 = .ok (.aload_n 0, 1) := by decide +kernel
theorem dX5_innermostRound_39 : decode cX5_innermostRound 39 = .ok (.iload 4, 2) := by decide +kernel
theorem dX5_innermostRound_41 : decode cX5_innermostRound 41 = .ok (.iconst 0, 1) := by decide +kernel
theorem dX5_innermostRound_42 : decode cX5_innermostRound 42 = .ok (.invokevirtual 35, 3) := by decide +kernel
theorem dX5_innermostRound_45 : decode cX5_innermostRound 45 = .ok (.invokestatic 43, 3) := by decide +kernel
theorem dX5_innermostRound_48 : decode cX5_innermostRound 48 = .ok (.ifCond .eq 6, 3) := by decide +kernel
theorem dX5_innermostRound_51 : decode cX5_innermostRound 51 = .ok (.iload 4, 2) := by decide +kernel
theorem dX5_innermostRound_53 : decode cX5_innermostRound 53 = .ok (.istore_n 3, 1) := by decide +kernel
theorem dX5_innermostRound_54 : decode cX5_innermostRound 54 = .ok (.iinc 4 1, 3) := by decide +kernel
theorem dX5_innermostRound_57 : decode cX5_innermostRound 57 = .ok (.goto (-45), 3) := by decide +kernel
theorem dX5_innermostRound_60 : decode cX5_innermostRound 60 = .ok (.iload_n 3, 1) := by decide +kernel
theorem dX5_innermostRound_61 : decode cX5_innermostRound 61 = .ok (.ireturn, 1) := by decide +kernel
set_option maxRecDepth 200000 in
theorem ggX6_init_X4_init : GoodIn wsX6_init wsX4_init := goodIn_r _ [22, 23, 2, 3, 24, 25, 26, 27, 28, 29, 49, 50, 51, 52, 53, 54] rfl (by decide +kernel)
set_option maxRecDepth 200000 in
theorem gX6_init_X4_init : GoodIn wsX6_init (wsX4_init) := ggX6_init_X4_init
set_option maxRecDepth 200000 in
theorem ggX6_init_X1_init : GoodIn wsX6_init wsX1_init := goodIn_r _ [32, 33, 2, 3, 34, 35, 5, 6, 36, 37, 21, 22, 23, 24, 25, 26, 27, 28, 29, 59, 60, 61, 62, 63, 49, 50, 51, 52, 53, 54] rfl (by decide +kernel)
set_option maxRecDepth 200000 in
theorem gX6_init_X1_init : GoodIn wsX6_init (wsX1_init) := ggX6_init_X1_init
set_option maxRecDepth 200000 in
theorem ggX6_init_X3_init : GoodIn wsX6_init wsX3_init := goodIn_r _ [40, 41, 2, 3, 25, 42, 64, 65, 66, 67, 68, 69, 70, 71] rfl (by decide +kernel)
set_option maxRecDepth 200000 in
theorem gX6_init_X3_init : GoodIn wsX6_init (wsX3_init) := ggX6_init_X3_init
set_option maxRecDepth 200000 in
theorem ggX6_init_X0_init : GoodIn wsX6_init wsX0_init := goodIn_r _ [45, 46, 2, 3, 25, 47, 48, 72, 73, 74] rfl (by decide +kernel)
set_option maxRecDepth 200000 in
theorem gX6_init_X0_init : GoodIn wsX6_init (wsX0_init) := ggX6_init_X0_init
theorem dX6_init_0 : decode cX6_init 0 = .ok (.aload_n 0, 1) := by decide +kernel
theorem dX6_init_1 : decode cX6_init 1 = .ok (.invokespecial 1, 3) := by decide +kernel
theorem dX6_init_4 : decode cX6_init 4 = .ok (.aload_n 0, 1) := by decide +kernel
theorem dX6_init_5 : decode cX6_init 5 = .ok (.new 7, 3) := by decide +kernel
theorem dX6_init_8 : decode cX6_init 8 = .ok (.dup, 1) := by decide +kernel
theorem dX6_init_9 : decode cX6_init 9 = .ok (.invokespecial 9, 3) := by decide +kernel
theorem dX6_init_12 : decode cX6_init 12 = .ok (.putfield 10, 3) := by decide +kernel
