set_option maxRecDepth 200000 in
theorem ggX6_step_X4_addStep : GoodIn wsX6_step wsX4_addStep := goodIn_r _ [104, 35, 34, 36, 37, 38, 15, 39, 17, 40, 41, 42, 43, 44, 8, 45, 46, 47, 48, 49, 50, 23, 24, 25, 51, 52, 53, 54, 55, 56, 110, 111, 112, 113, 114, 115] rfl (by decide +kernel)
set_option maxRecDepth 200000 in
theorem gX6_step_X4_addStep : GoodIn wsX6_step (wsV RX6 74 RX4 yX4_addStep wsX4_addStep) := goodIn_app (goodIn_of _ (by decide +kernel)) ggX6_step_X4_addStep
set_option maxRecDepth 200000 in
theorem ggX6_step_X4_isRing : GoodIn wsX6_step wsX4_isRing := goodIn_r _ [33, 17, 34, 35, 110, 111, 112, 113, 114, 115] rfl (by decide +kernel)
set_option maxRecDepth 200000 in
theorem gX6_step_X4_isRing : GoodIn wsX6_step (wsV RX6 78 RX4 yX4_isRing wsX4_isRing) := goodIn_app (goodIn_of _ (by decide +kernel)) ggX6_step_X4_isRing
theorem dX6_step_0 : decode cX6_step 0 = .ok (.aload_n 0, 1) := by decide +kernel
theorem dX6_step_1 : decode cX6_step 1 = .ok (.iload_n 1, 1) := by decide +kernel
theorem dX6_step_2 : decode cX6_step 2 = .ok (.invokevirtual 63, 3) := by decide +kernel
theorem dX6_step_5 : decode cX6_step 5 = .ok (.iload_n 2, 1) := by decide +kernel
theorem dX6_step_6 : decode cX6_step 6 = .ok (.invokestatic 66, 3) := by decide +kernel
theorem dX6_step_9 : decode cX6_step 9 = .ok (.aload_n 0, 1) := by decide +kernel
theorem dX6_step_10 : decode cX6_step 10 = .ok (.getfield 10, 3) := by decide +kernel
theorem dX6_step_13 : decode cX6_step 13 = .ok (.iload_n 1, 1) := by decide +kernel
theorem dX6_step_14 : decode cX6_step 14 = .ok (.iload_n 2, 1) := by decide +kernel
theorem dX6_step_15 : decode cX6_step 15 = .ok (.invokevirtual 69, 3) := by decide +kernel
theorem dX6_step_18 : decode cX6_step 18 = .ok (.ifCond .eq 13, 3) := by decide +kernel
theorem dX6_step_21 : decode cX6_step 21 = .ok (.new 48, 3) := by decide +kernel
theorem dX6_step_24 : decode cX6_step 24 = .ok (.dup, 1) := by decide +kernel
theorem dX6_step_25 : decode cX6_step 25 = .ok (.ldc 72, 2) := by decide +kernel
theorem dX6_step_27 : decode cX6_step 27 = .ok (.invokespecial 52, 3) := by decide +kernel
theorem dX6_step_30 : decode cX6_step 30 = .ok (.athrow, 1) := by decide +kernel
theorem dX6_step_31 : decode cX6_step 31 = .ok (.aload_n 0, 1) := by decide +kernel
theorem dX6_step_32 : decode cX6_step 32 = .ok (.getfield 19, 3) := by decide +kernel
theorem dX6_step_35 : decode cX6_step 35 = .ok (.aload_n 0, 1) := by decide +kernel
theorem dX6_step_36 : decode cX6_step 36 = .ok (.getfield 10, 3) := by decide +kernel
theorem dX6_step_39 : decode cX6_step 39 = .ok (.invokevirtual 55, 3) := by decide +kernel
theorem dX6_step_42 : decode cX6_step 42 = .ok (.aload_n 0, 1) := by decide +kernel
theorem dX6_step_43 : decode cX6_step 43 = .ok (.getfield 10, 3) := by decide +kernel
theorem dX6_step_46 : decode cX6_step 46 = .ok (.iload_n 1, 1) := by decide +kernel
theorem dX6_step_47 : decode cX6_step 47 = .ok (.iload_n 2, 1) := by decide +kernel
theorem dX6_step_48 : decode cX6_step 48 = .ok (.invokevirtual 74, 3) := by decide +kernel
theorem dX6_step_51 : decode cX6_step 51 = .ok (.aload_n 0, 1) := by decide +kernel
theorem dX6_step_52 : decode cX6_step 52 = .ok (.getfield 10, 3) := by decide +kernel
theorem dX6_step_55 : decode cX6_step 55 = .ok (.iload_n 1, 1) := by decide +kernel
theorem dX6_step_56 : decode cX6_step 56 = .ok (.invokevirtual 78, 3) := by decide +kernel
theorem dX6_step_59 : decode cX6_step 59 = .ok (.ireturn, 1) := by decide +kernel
set_option maxRecDepth 200000 in
theorem ggX6_wipe_X6_requireLine : GoodIn wsX6_wipe wsX6_requireLine := goodIn_ca (goodIn_r _ [7, 8, 9, 2, 10, 11, 12, 13, 14, 15, 57, 58, 59, 60, 61, 62, 63, 64, 65, 66] rfl (by decide +kernel)) (goodIn_sub (fun _ h => List.mem_cons_of_mem _ (List.mem_append_right _ h)) (by decide +kernel))
set_option maxRecDepth 200000 in
theorem gX6_wipe_X6_requireLine : GoodIn wsX6_wipe (wsV RX6 63 RX6 yX6_requireLine wsX6_requireLine) := goodIn_app (goodIn_of _ (by decide +kernel)) ggX6_wipe_X6_requireLine
set_option maxRecDepth 200000 in
theorem ggX6_wipe_X1_save : GoodIn wsX6_wipe wsX1_save := goodIn_r _ [20, 21, 22, 23, 24, 25, 19, 26, 27, 28, 29, 30, 31, 32, 33, 13, 34, 15, 35, 36, 37, 38, 39, 40, 41, 42, 43, 67, 68, 69, 70, 71, 61, 62, 63, 64, 65, 66] rfl (by decide +kernel)
set_option maxRecDepth 200000 in
theorem gX6_wipe_X1_save : GoodIn wsX6_wipe (wsV RX6 55 RX1 yX1_save wsX1_save) := goodIn_app (goodIn_of _ (by decide +kernel)) ggX6_wipe_X1_save
set_option maxRecDepth 200000 in
theorem ggX6_wipe_X4_removeLine : GoodIn wsX6_wipe wsX4_removeLine := goodIn_r _ [47, 36, 41, 42, 43, 15, 48, 11, 12, 13, 14, 49, 50, 51, 52, 37, 38, 39, 40, 61, 62, 63, 64, 65, 66] rfl (by decide +kernel)
set_option maxRecDepth 200000 in
theorem gX6_wipe_X4_removeLine : GoodIn wsX6_wipe (wsV RX6 81 RX4 yX4_removeLine wsX4_removeLine) := goodIn_app (goodIn_of _ (by decide +kernel)) ggX6_wipe_X4_removeLine
set_option maxRecDepth 200000 in
theorem ggX6_wipe_X4_lineCount : GoodIn wsX6_wipe wsX4_lineCount := goodIn_r _ [56, 15, 61, 62, 63, 64, 65, 66] rfl (by decide +kernel)
set_option maxRecDepth 200000 in
theorem gX6_wipe_X4_lineCount : GoodIn wsX6_wipe (wsV RX6 84 RX4 yX4_lineCount wsX4_lineCount) := goodIn_app (goodIn_of _ (by decide +kernel)) ggX6_wipe_X4_lineCount
theorem dX6_wipe_0 : decode cX6_wipe 0 = .ok (.aload_n 0, 1) := by decide +kernel
theorem dX6_wipe_1 : decode cX6_wipe 1 = .ok (.iload_n 1, 1) := by decide +kernel
theorem dX6_wipe_2 : decode cX6_wipe 2 = .ok (.invokevirtual 63, 3) := by decide +kernel
theorem dX6_wipe_5 : decode cX6_wipe 5 = .ok (.aload_n 0, 1) := by decide +kernel
theorem dX6_wipe_6 : decode cX6_wipe 6 = .ok (.getfield 19, 3) := by decide +kernel
theorem dX6_wipe_9 : decode cX6_wipe 9 = .ok (.aload_n 0, 1) := by decide +kernel
theorem dX6_wipe_10 : decode cX6_wipe 10 = .ok (.getfield 10, 3) := by decide +kernel
theorem dX6_wipe_13 : decode cX6_wipe 13 = .ok (.invokevirtual 55, 3) := by decide +kernel
theorem dX6_wipe_16 : decode cX6_wipe 16 = .ok (.aload_n 0, 1) := by decide +kernel
theorem dX6_wipe_17 : decode cX6_wipe 17 = .ok (.getfield 10, 3) := by decide +kernel
theorem dX6_wipe_20 : decode cX6_wipe 20 = .ok (.iload_n 1, 1) := by decide +kernel
theorem dX6_wipe_21 : decode cX6_wipe 21 = .ok (.invokevirtual 81, 3) := by decide +kernel
theorem dX6_wipe_24 : decode cX6_wipe 24 = .ok (.pop, 1) := by decide +kernel
theorem dX6_wipe_25 : decode cX6_wipe 25 = .ok (.aload_n 0, 1) := by decide +kernel
theorem dX6_wipe_26 : decode cX6_wipe 26 = .ok (.getfield 10, 3) := by decide +kernel
theorem dX6_wipe_29 : decode cX6_wipe 29 = .ok (.invokevirtual 84, 3) := by decide +kernel
theorem dX6_wipe_32 : decode cX6_wipe 32 = .ok (.ireturn, 1) := by decide +kernel
set_option maxRecDepth 200000 in
theorem ggX6_setLevel_X6_requireLine : GoodIn wsX6_setLevel wsX6_requireLine := goodIn_ca (goodIn_r _ [7, 8, 9, 2, 10, 11, 12, 13, 14, 15, 61, 62, 63, 64, 65, 66, 67, 68, 69, 70] rfl (by decide +kernel)) (goodIn_sub (fun _ h => List.mem_cons_of_mem _ (List.mem_append_left _ (List.mem_append_right _ h))) (by decide +kernel))
set_option maxRecDepth 200000 in
theorem gX6_setLevel_X6_requireLine : GoodIn wsX6_setLevel (wsV RX6 63 RX6 yX6_requireLine wsX6_requireLine) := goodIn_app (goodIn_of _ (by decide +kernel)) ggX6_setLevel_X6_requireLine
set_option maxRecDepth 200000 in
theorem ggX6_setLevel_X6_requireLevel : GoodIn wsX6_setLevel wsX6_requireLevel := goodIn_ca (goodIn_r _ [18, 19, 20] rfl (by decide +kernel)) (goodIn_sub (fun _ h => List.mem_cons_of_mem _ (List.mem_append_right _ h)) (by decide +kernel))
set_option maxRecDepth 200000 in
theorem gX6_setLevel_X6_requireLevel : GoodIn wsX6_setLevel (va_wsS RX6 41 yX6_requireLevel wsX6_requireLevel) := goodIn_app (goodIn_of _ (by decide +kernel)) ggX6_setLevel_X6_requireLevel
set_option maxRecDepth 200000 in
theorem ggX6_setLevel_X1_save : GoodIn wsX6_setLevel wsX1_save := goodIn_r _ [25, 26, 27, 28, 29, 30, 24, 31, 32, 33, 34, 35, 36, 37, 38, 13, 39, 15, 40, 41, 42, 43, 44, 45, 46, 47, 48, 71, 72, 73, 74, 75, 65, 66, 67, 68, 69, 70] rfl (by decide +kernel)
set_option maxRecDepth 200000 in
theorem gX6_setLevel_X1_save : GoodIn wsX6_setLevel (wsV RX6 55 RX1 yX1_save wsX1_save) := goodIn_app (goodIn_of _ (by decide +kernel)) ggX6_setLevel_X1_save
set_option maxRecDepth 200000 in
theorem ggX6_setLevel_X4_levelIn : GoodIn wsX6_setLevel wsX4_levelIn := goodIn_r _ [52, 15, 41, 65, 66, 67, 68, 69, 70] rfl (by decide +kernel)
set_option maxRecDepth 200000 in
theorem gX6_setLevel_X4_levelIn : GoodIn wsX6_setLevel (wsV RX6 88 RX4 yX4_levelIn wsX4_levelIn) := goodIn_app (goodIn_of _ (by decide +kernel)) ggX6_setLevel_X4_levelIn
set_option maxRecDepth 200000 in
theorem ggX6_setLevel_X4_putLevel : GoodIn wsX6_setLevel wsX4_putLevel := goodIn_r _ [56, 15, 41, 65, 66, 67, 68, 69, 70] rfl (by decide +kernel)
set_option maxRecDepth 200000 in
theorem gX6_setLevel_X4_putLevel : GoodIn wsX6_setLevel (wsV RX6 92 RX4 yX4_putLevel wsX4_putLevel) := goodIn_app (goodIn_of _ (by decide +kernel)) ggX6_setLevel_X4_putLevel
set_option maxRecDepth 200000 in
theorem ggX6_setLevel_X4_putLabel : GoodIn wsX6_setLevel wsX4_putLabel := goodIn_r _ [60, 15, 47, 65, 66, 67, 68, 69, 70] rfl (by decide +kernel)
set_option maxRecDepth 200000 in
theorem gX6_setLevel_X4_putLabel : GoodIn wsX6_setLevel (wsV RX6 95 RX4 yX4_putLabel wsX4_putLabel) := goodIn_app (goodIn_of _ (by decide +kernel)) ggX6_setLevel_X4_putLabel
theorem dX6_setLevel_0 : decode cX6_setLevel 0 = .ok (.aload_n 0, 1) := by decide +kernel
theorem dX6_setLevel_1 : decode cX6_setLevel 1 = .ok (.iload_n 1, 1) := by decide +kernel
theorem dX6_setLevel_2 : decode cX6_setLevel 2 = .ok (.invokevirtual 63, 3) := by decide +kernel
theorem dX6_setLevel_5 : decode cX6_setLevel 5 = .ok (.iload_n 2, 1) := by decide +kernel
theorem dX6_setLevel_6 : decode cX6_setLevel 6 = .ok (.invokestatic 41, 3) := by decide +kernel
theorem dX6_setLevel_9 : decode cX6_setLevel 9 = .ok (.aload_n 0, 1) := by decide +kernel
theorem dX6_setLevel_10 : decode cX6_setLevel 10 = .ok (.getfield 19, 3) := by decide +kernel
theorem dX6_setLevel_13 : decode cX6_setLevel 13 = .ok (.aload_n 0, 1) := by decide +kernel
theorem dX6_setLevel_14 : decode cX6_setLevel 14 = .ok (.getfield 10, 3) := by decide +kernel
theorem dX6_setLevel_17 : decode cX6_setLevel 17 = .ok (.invokevirtual 55, 3) := by decide +kernel
theorem dX6_setLevel_20 : decode cX6_setLevel 20 = .ok (.aload_n 0, 1) := by decide +kernel
theorem dX6_setLevel_21 : decode cX6_setLevel 21 = .ok (.getfield 10, 3) := by decide +kernel
theorem dX6_setLevel_24 : decode cX6_setLevel 24 = .ok (.iload_n 1, 1) := by decide +kernel
theorem dX6_setLevel_25 : decode cX6_setLevel 25 = .ok (.invokevirtual 88, 3) := by decide +kernel
theorem dX6_setLevel_28 : decode cX6_setLevel 28 = .ok (.istore_n 3, 1) := by decide +kernel
theorem dX6_setLevel_29 : decode cX6_setLevel 29 = .ok (.aload_n 0, 1) := by decide +kernel
theorem dX6_setLevel_30 : decode cX6_setLevel 30 = .ok (.getfield 10, 3) := by decide +kernel
theorem dX6_setLevel_33 : decode cX6_setLevel 33 = .ok (.iload_n 1, 1) := by decide +kernel
theorem dX6_setLevel_34 : decode cX6_setLevel 34 = .ok (.iload_n 2, 1) := by decide +kernel
theorem dX6_setLevel_35 : decode cX6_setLevel 35 = .ok (.invokevirtual 92, 3) := by decide +kernel
theorem dX6_setLevel_38 : decode cX6_setLevel 38 = .ok (.aload_n 0, 1) := by decide +kernel
theorem dX6_setLevel_39 : decode cX6_setLevel 39 = .ok (.getfield 10, 3) := by decide +kernel
theorem dX6_setLevel_42 : decode cX6_setLevel 42 = .ok (.iload_n 1, 1) := by decide +kernel
theorem dX6_setLevel_43 : decode cX6_setLevel 43 = .ok (.iconst (-1), 1) := by decide +kernel
theorem dX6_setLevel_44 : decode cX6_setLevel 44 = .ok (.invokevirtual 95, 3) := by decide +kernel
theorem dX6_setLevel_47 : decode cX6_setLevel 47 = .ok (.iload_n 3, 1) := by decide +kernel
theorem dX6_setLevel_48 : decode cX6_setLevel 48 = .ok (.ireturn, 1) := by decide +kernel
set_option maxRecDepth 200000 in
theorem ggX6_label_X6_requireNumber : GoodIn wsX6_label wsX6_requireNumber := goodIn_ca (goodIn_r _ [9, 10, 11, 3, 12, 13, 14, 15, 16, 17, 18, 136, 137, 138, 139, 140, 141, 142, 143, 144, 145] rfl (by decide +kernel)) (goodIn_sub (fun _ h => List.mem_cons_of_mem _ (List.mem_append_right _ h)) (by decide +kernel))
set_option maxRecDepth 200000 in
theorem gX6_label_X6_requireNumber : GoodIn wsX6_label (wsV RX6 98 RX6 yX6_requireNumber wsX6_requireNumber) := goodIn_app (goodIn_of _ (by decide +kernel)) ggX6_label_X6_requireNumber
set_option maxRecDepth 200000 in
theorem ggX6_label_X2_reasonAgainst : GoodIn wsX6_label wsX2_reasonAgainst := goodIn_r _ [22, 23, 24, 21, 25, 26, 27, 28, 29, 30, 31, 15, 32, 17, 18, 33, 34, 35, 36, 37, 38, 13, 14, 16, 39, 40, 41, 42, 43, 44, 45, 46, 47, 48, 49, 50, 51, 52, 53, 54, 55, 56, 57, 58, 59, 60, 61, 62, 63, 64, 65, 66, 67, 68, 69, 70, 71, 72, 73, 74, 75, 8, 76, 77, 78, 79, 80, 81, 82, 83, 84, 85, 86, 87, 88, 89, 90, 91, 92, 93, 94, 95, 96, 97, 98, 99, 100, 101, 102, 103, 104, 105, 106, 107, 140, 141, 142, 143, 144, 145] rfl (by decide +kernel)
set_option maxRecDepth 200000 in
theorem gX6_label_X2_reasonAgainst : GoodIn wsX6_label (va_wsS RX6 101 yX2_reasonAgainst wsX2_reasonAgainst) := goodIn_app (goodIn_of _ (by decide +kernel)) ggX6_label_X2_reasonAgainst
set_option maxRecDepth 200000 in
theorem ggX6_label_X1_save : GoodIn wsX6_label wsX1_save := goodIn_r _ [112, 113, 114, 115, 116, 117, 111, 118, 119, 120, 121, 122, 123, 124, 125, 15, 126, 17, 107, 43, 127, 128, 129, 130, 18, 91, 37, 146, 147, 148, 149, 150, 140, 141, 142, 143, 144, 145] rfl (by decide +kernel)
set_option maxRecDepth 200000 in
theorem gX6_label_X1_save : GoodIn wsX6_label (wsV RX6 55 RX1 yX1_save wsX1_save) := goodIn_app (goodIn_of _ (by decide +kernel)) ggX6_label_X1_save
set_option maxRecDepth 200000 in
theorem ggX6_label_X4_putLabel : GoodIn wsX6_label wsX4_putLabel := goodIn_r _ [134, 17, 91, 140, 141, 142, 143, 144, 145] rfl (by decide +kernel)
set_option maxRecDepth 200000 in
theorem gX6_label_X4_putLabel : GoodIn wsX6_label (wsV RX6 95 RX4 yX4_putLabel wsX4_putLabel) := goodIn_app (goodIn_of _ (by decide +kernel)) ggX6_label_X4_putLabel
set_option maxRecDepth 200000 in
theorem ggX6_label_X2_bendOfPlace : GoodIn wsX6_label wsX2_bendOfPlace := goodIn_r _ [46, 26, 27, 21, 28, 29, 30, 31, 15, 32, 17, 18, 33, 34, 35, 36, 37, 38, 13, 14, 16, 39, 40, 41, 42, 43, 47, 48, 49, 50, 51, 52, 53, 54, 55, 56, 57, 58, 59, 60, 61, 62, 63, 64, 65, 66, 140, 141, 142, 143, 144, 145] rfl (by decide +kernel)
set_option maxRecDepth 200000 in
theorem gX6_label_X2_bendOfPlace : GoodIn wsX6_label (va_wsS RX6 109 yX2_bendOfPlace wsX2_bendOfPlace) := goodIn_app (goodIn_of _ (by decide +kernel)) ggX6_label_X2_bendOfPlace
theorem dX6_label_0 : decode cX6_label 0 = .ok (.aload_n 0, 1) := by decide +kernel
theorem dX6_label_1 : decode cX6_label 1 = .ok (.iload_n 1, 1) := by decide +kernel
theorem dX6_label_2 : decode cX6_label 2 = .ok (.iload_n 2, 1) := by decide +kernel
theorem dX6_label_3 : decode cX6_label 3 = .ok (.invokevirtual 98, 3) := by decide +kernel
theorem dX6_label_6 : decode cX6_label 6 = .ok (.aload_n 0, 1) := by decide +kernel
theorem dX6_label_7 : decode cX6_label 7 = .ok (.getfield 10, 3) := by decide +kernel
theorem dX6_label_10 : decode cX6_label 10 = .ok (.iload_n 1, 1) := by decide +kernel
theorem dX6_label_11 : decode cX6_label 11 = .ok (.iload_n 2, 1) := by decide +kernel
theorem dX6_label_12 : decode cX6_label 12 = .ok (.invokestatic 101, 3) := by decide +kernel
theorem dX6_label_15 : decode cX6_label 15 = .ok (.ifCond .eq 13, 3) := by decide +kernel
theorem dX6_label_18 : decode cX6_label 18 = .ok (.new 48, 3) := by decide +kernel
theorem dX6_label_21 : decode cX6_label 21 = .ok (.dup, 1) := by decide +kernel
theorem dX6_label_22 : decode cX6_label 22 = .ok (.ldc 107, 2) := by decide +kernel
theorem dX6_label_24 : decode cX6_label 24 = .ok (.invokespecial 52, 3) := by decide +kernel
theorem dX6_label_27 : decode cX6_label 27 = .ok (.athrow, 1) := by decide +kernel
theorem dX6_label_28 : decode cX6_label 28 = .ok (.aload_n 0, 1) := by decide +kernel
theorem dX6_label_29 : decode cX6_label 29 = .ok (.getfield 19, 3) := by decide +kernel
theorem dX6_label_32 : decode cX6_label 32 = .ok (.aload_n 0, 1) := by decide +kernel
theorem dX6_label_33 : decode cX6_label 33 = .ok (.getfield 10, 3) := by decide +kernel
theorem dX6_label_36 : decode cX6_label 36 = .ok (.invokevirtual 55, 3) := by decide +kernel
theorem dX6_label_39 : decode cX6_label 39 = .ok (.aload_n 0, 1) := by decide +kernel
theorem dX6_label_40 : decode cX6_label 40 = .ok (.getfield 10, 3) := by decide +kernel
theorem dX6_label_43 : decode cX6_label 43 = .ok (.iload_n 1, 1) := by decide +kernel
theorem dX6_label_44 : decode cX6_label 44 = .ok (.iload_n 2, 1) := by decide +kernel
theorem dX6_label_45 : decode cX6_label 45 = .ok (.invokevirtual 95, 3) := by decide +kernel
theorem dX6_label_48 : decode cX6_label 48 = .ok (.aload_n 0, 1) := by decide +kernel
theorem dX6_label_49 : decode cX6_label 49 = .ok (.getfield 10, 3) := by decide +kernel
theorem dX6_label_52 : decode cX6_label 52 = .ok (.iload_n 1, 1) := by decide +kernel
theorem dX6_label_53 : decode cX6_label 53 = .ok (.iload_n 2, 1) := by decide +kernel
theorem dX6_label_54 : decode cX6_label 54 = .ok (.invokestatic 109, 3) := by decide +kernel
theorem dX6_label_57 : decode cX6_label 57 = .ok (.ireturn, 1) := by decide +kernel
set_option maxRecDepth 200000 in
theorem ggX6_unlabel_X6_requireLine : GoodIn wsX6_unlabel wsX6_requireLine := goodIn_ca (goodIn_r _ [9, 10, 11, 3, 12, 13, 14, 15, 16, 17, 54, 55, 56, 57, 58, 59, 60, 61, 62, 63] rfl (by decide +kernel)) (goodIn_sub (fun _ h => List.mem_cons_of_mem _ (List.mem_append_right _ h)) (by decide +kernel))
set_option maxRecDepth 200000 in
theorem gX6_unlabel_X6_requireLine : GoodIn wsX6_unlabel (wsV RX6 63 RX6 yX6_requireLine wsX6_requireLine) := goodIn_app (goodIn_of _ (by decide +kernel)) ggX6_unlabel_X6_requireLine
set_option maxRecDepth 200000 in
theorem ggX6_unlabel_X4_labelIn : GoodIn wsX6_unlabel wsX4_labelIn := goodIn_r _ [21, 17, 22, 58, 59, 60, 61, 62, 63] rfl (by decide +kernel)
set_option maxRecDepth 200000 in
theorem gX6_unlabel_X4_labelIn : GoodIn wsX6_unlabel (wsV RX6 112 RX4 yX4_labelIn wsX4_labelIn) := goodIn_app (goodIn_of _ (by decide +kernel)) ggX6_unlabel_X4_labelIn
set_option maxRecDepth 200000 in
theorem ggX6_unlabel_X1_save : GoodIn wsX6_unlabel wsX1_save := goodIn_r _ [27, 28, 29, 30, 31, 32, 26, 33, 34, 35, 36, 37, 38, 39, 40, 15, 41, 17, 42, 43, 44, 45, 46, 47, 48, 22, 49, 64, 65, 66, 67, 68, 58, 59, 60, 61, 62, 63] rfl (by decide +kernel)
set_option maxRecDepth 200000 in
theorem gX6_unlabel_X1_save : GoodIn wsX6_unlabel (wsV RX6 55 RX1 yX1_save wsX1_save) := goodIn_app (goodIn_of _ (by decide +kernel)) ggX6_unlabel_X1_save
set_option maxRecDepth 200000 in
theorem ggX6_unlabel_X4_putLabel : GoodIn wsX6_unlabel wsX4_putLabel := goodIn_r _ [53, 17, 22, 58, 59, 60, 61, 62, 63] rfl (by decide +kernel)
set_option maxRecDepth 200000 in
theorem gX6_unlabel_X4_putLabel : GoodIn wsX6_unlabel (wsV RX6 95 RX4 yX4_putLabel wsX4_putLabel) := goodIn_app (goodIn_of _ (by decide +kernel)) ggX6_unlabel_X4_putLabel
theorem dX6_unlabel_0 : decode cX6_unlabel 0 = .ok (.aload_n 0, 1) := by decide +kernel
theorem dX6_unlabel_1 : decode cX6_unlabel 1 = .ok (.iload_n 1, 1) := by decide +kernel
theorem dX6_unlabel_2 : decode cX6_unlabel 2 = .ok (.invokevirtual 63, 3) := by decide +kernel
theorem dX6_unlabel_5 : decode cX6_unlabel 5 = .ok (.aload_n 0, 1) := by decide +kernel
theorem dX6_unlabel_6 : decode cX6_unlabel 6 = .ok (.getfield 10, 3) := by decide +kernel
theorem dX6_unlabel_9 : decode cX6_unlabel 9 = .ok (.iload_n 1, 1) := by decide +kernel
theorem dX6_unlabel_10 : decode cX6_unlabel 10 = .ok (.invokevirtual 112, 3) := by decide +kernel
theorem dX6_unlabel_13 : decode cX6_unlabel 13 = .ok (.istore_n 2, 1) := by decide +kernel
theorem dX6_unlabel_14 : decode cX6_unlabel 14 = .ok (.iload_n 2, 1) := by decide +kernel
theorem dX6_unlabel_15 : decode cX6_unlabel 15 = .ok (.iconst (-1), 1) := by decide +kernel
theorem dX6_unlabel_16 : decode cX6_unlabel 16 = .ok (.if_icmp .ne 13, 3) := by decide +kernel
theorem dX6_unlabel_19 : decode cX6_unlabel 19 = .ok (.new 48, 3) := by decide +kernel
theorem dX6_unlabel_22 : decode cX6_unlabel 22 = .ok (.dup, 1) := by decide +kernel
theorem dX6_unlabel_23 : decode cX6_unlabel 23 = .ok (.ldc 115, 2) := by decide +kernel
theorem dX6_unlabel_25 : decode cX6_unlabel 25 = .ok (.invokespecial 52, 3) := by decide +kernel
theorem dX6_unlabel_28 : decode cX6_unlabel 28 = .ok (.athrow, 1) := by decide +kernel
theorem dX6_unlabel_29 : decode cX6_unlabel 29 = .ok (.aload_n 0, 1) := by decide +kernel
theorem dX6_unlabel_30 : decode cX6_unlabel 30 = .ok (.getfield 19, 3) := by decide +kernel
theorem dX6_unlabel_33 : decode cX6_unlabel 33 = .ok (.aload_n 0, 1) := by decide +kernel
theorem dX6_unlabel_34 : decode cX6_unlabel 34 = .ok (.getfield 10, 3) := by decide +kernel
theorem dX6_unlabel_37 : decode cX6_unlabel 37 = .ok (.invokevirtual 55, 3) := by decide +kernel
theorem dX6_unlabel_40 : decode cX6_unlabel 40 = .ok (.aload_n 0, 1) := by decide +kernel
theorem dX6_unlabel_41 : decode cX6_unlabel 41 = .ok (.getfield 10, 3) := by decide +kernel
theorem dX6_unlabel_44 : decode cX6_unlabel 44 = .ok (.iload_n 1, 1) := by decide +kernel
theorem dX6_unlabel_45 : decode cX6_unlabel 45 = .ok (.iconst (-1), 1) := by decide +kernel
theorem dX6_unlabel_46 : decode cX6_unlabel 46 = .ok (.invokevirtual 95, 3) := by decide +kernel
theorem dX6_unlabel_49 : decode cX6_unlabel 49 = .ok (.iload_n 2, 1) := by decide +kernel
theorem dX6_unlabel_50 : decode cX6_unlabel 50 = .ok (.ireturn, 1) := by decide +kernel
set_option maxRecDepth 200000 in
theorem ggX6_labelBest_X6_requireLine : GoodIn wsX6_labelBest wsX6_requireLine := goodIn_ca (goodIn_r _ [9, 10, 11, 3, 12, 13, 14, 15, 16, 17, 138, 139, 140, 141, 142, 143, 144, 145, 146, 147] rfl (by decide +kernel)) (goodIn_sub (fun _ h => List.mem_cons_of_mem _ (List.mem_append_right _ h)) (by decide +kernel))
set_option maxRecDepth 200000 in
theorem gX6_labelBest_X6_requireLine : GoodIn wsX6_labelBest (wsV RX6 63 RX6 yX6_requireLine wsX6_requireLine) := goodIn_app (goodIn_of _ (by decide +kernel)) ggX6_labelBest_X6_requireLine
set_option maxRecDepth 200000 in
theorem ggX6_labelBest_X2_best : GoodIn wsX6_labelBest wsX2_best := goodIn_r _ [21, 22, 23, 24, 15, 25, 17, 26, 27, 28, 20, 29, 30, 31, 32, 33, 34, 35, 36, 37, 38, 39, 40, 41, 42, 43, 44, 45, 46, 47, 48, 49, 50, 51, 52, 53, 54, 55, 56, 57, 58, 59, 60, 61, 62, 63, 64, 65, 66, 67, 68, 69, 70, 71, 72, 73, 74, 75, 76, 77, 78, 8, 79, 80, 81, 82, 83, 84, 85, 86, 87, 88, 89, 90, 91, 92, 93, 94, 95, 96, 97, 98, 99, 100, 101, 102, 103, 104, 105, 106, 107, 108, 109, 110, 142, 143, 144, 145, 146, 147] rfl (by decide +kernel)
set_option maxRecDepth 200000 in
theorem gX6_labelBest_X2_best : GoodIn wsX6_labelBest (va_wsS RX6 117 yX2_best wsX2_best) := goodIn_app (goodIn_of _ (by decide +kernel)) ggX6_labelBest_X2_best
set_option maxRecDepth 200000 in
theorem ggX6_labelBest_X1_save : GoodIn wsX6_labelBest wsX1_save := goodIn_r _ [115, 116, 117, 118, 119, 120, 114, 121, 122, 123, 124, 125, 126, 127, 128, 15, 129, 17, 110, 46, 130, 131, 132, 133, 26, 94, 37, 148, 149, 150, 151, 152, 142, 143, 144, 145, 146, 147] rfl (by decide +kernel)
set_option maxRecDepth 200000 in
theorem gX6_labelBest_X1_save : GoodIn wsX6_labelBest (wsV RX6 55 RX1 yX1_save wsX1_save) := goodIn_app (goodIn_of _ (by decide +kernel)) ggX6_labelBest_X1_save
set_option maxRecDepth 200000 in
theorem ggX6_labelBest_X4_putLabel : GoodIn wsX6_labelBest wsX4_putLabel := goodIn_r _ [137, 17, 94, 142, 143, 144, 145, 146, 147] rfl (by decide +kernel)
set_option maxRecDepth 200000 in
theorem gX6_labelBest_X4_putLabel : GoodIn wsX6_labelBest (wsV RX6 95 RX4 yX4_putLabel wsX4_putLabel) := goodIn_app (goodIn_of _ (by decide +kernel)) ggX6_labelBest_X4_putLabel
theorem dX6_labelBest_0 : decode cX6_labelBest 0 = .ok (.aload_n 0, 1) := by decide +kernel
theorem dX6_labelBest_1 : decode cX6_labelBest 1 = .ok (.iload_n 1, 1) := by decide +kernel
theorem dX6_labelBest_2 : decode cX6_labelBest 2 = .ok (.invokevirtual 63, 3) := by decide +kernel
theorem dX6_labelBest_5 : decode cX6_labelBest 5 = .ok (.aload_n 0, 1) := by decide +kernel
theorem dX6_labelBest_6 : decode cX6_labelBest 6 = .ok (.getfield 10, 3) := by decide +kernel
theorem dX6_labelBest_9 : decode cX6_labelBest 9 = .ok (.iload_n 1, 1) := by decide +kernel
theorem dX6_labelBest_10 : decode cX6_labelBest 10 = .ok (.invokestatic 117, 3) := by decide +kernel
theorem dX6_labelBest_13 : decode cX6_labelBest 13 = .ok (.istore_n 2, 1) := by decide +kernel
theorem dX6_labelBest_14 : decode cX6_labelBest 14 = .ok (.iload_n 2, 1) := by decide +kernel
theorem dX6_labelBest_15 : decode cX6_labelBest 15 = .ok (.iconst (-1), 1) := by decide +kernel
theorem dX6_labelBest_16 : decode cX6_labelBest 16 = .ok (.if_icmp .ne 13, 3) := by decide +kernel
theorem dX6_labelBest_19 : decode cX6_labelBest 19 = .ok (.new 48, 3) := by decide +kernel
theorem dX6_labelBest_22 : decode cX6_labelBest 22 = .ok (.dup, 1) := by decide +kernel
theorem dX6_labelBest_23 : decode cX6_labelBest 23 = .ok (.ldc 121, 2) := by decide +kernel
theorem dX6_labelBest_25 : decode cX6_labelBest 25 = .ok (.invokespecial 52, 3) := by decide +kernel
theorem dX6_labelBest_28 : decode cX6_labelBest 28 = .ok (.athrow, 1) := by decide +kernel
theorem dX6_labelBest_29 : decode cX6_labelBest 29 = .ok (.aload_n 0, 1) := by decide +kernel
theorem dX6_labelBest_30 : decode cX6_labelBest 30 = .ok (.getfield 19, 3) := by decide +kernel
theorem dX6_labelBest_33 : decode cX6_labelBest 33 = .ok (.aload_n 0, 1) := by decide +kernel
theorem dX6_labelBest_34 : decode cX6_labelBest 34 = .ok (.getfield 10, 3) := by decide +kernel
theorem dX6_labelBest_37 : decode cX6_labelBest 37 = .ok (.invokevirtual 55, 3) := by decide +kernel
theorem dX6_labelBest_40 : decode cX6_labelBest 40 = .ok (.aload_n 0, 1) := by decide +kernel
theorem dX6_labelBest_41 : decode cX6_labelBest 41 = .ok (.getfield 10, 3) := by decide +kernel
theorem dX6_labelBest_44 : decode cX6_labelBest 44 = .ok (.iload_n 1, 1) := by decide +kernel
theorem dX6_labelBest_45 : decode cX6_labelBest 45 = .ok (.iload_n 2, 1) := by decide +kernel
theorem dX6_labelBest_46 : decode cX6_labelBest 46 = .ok (.invokevirtual 95, 3) := by decide +kernel
theorem dX6_labelBest_49 : decode cX6_labelBest 49 = .ok (.iload_n 2, 1) := by decide +kernel
theorem dX6_labelBest_50 : decode cX6_labelBest 50 = .ok (.ireturn, 1) := by decide +kernel
set_option maxRecDepth 200000 in
theorem ggX6_labelAll_X1_save : GoodIn wsX6_labelAll wsX1_save := goodIn_r _ [7, 8, 9, 10, 11, 12, 6, 13, 14, 15, 16, 17, 18, 19, 20, 21, 22, 23, 24, 25, 26, 27, 28, 29, 30, 31, 32, 150, 151, 152, 153, 154, 155, 156, 157, 158, 159, 160] rfl (by decide +kernel)
set_option maxRecDepth 200000 in
theorem gX6_labelAll_X1_save : GoodIn wsX6_labelAll (wsV RX6 55 RX1 yX1_save wsX1_save) := goodIn_app (goodIn_of _ (by decide +kernel)) ggX6_labelAll_X1_save
set_option maxRecDepth 200000 in
theorem ggX6_labelAll_X2_setAll : GoodIn wsX6_labelAll wsX2_setAll := goodIn_r _ [36, 37, 38, 39, 21, 40, 23, 41, 42, 43, 44, 31, 45, 46, 47, 48, 49, 50, 51, 52, 53, 54, 55, 56, 25, 57, 58, 35, 59, 60, 61, 62, 63, 30, 64, 65, 66, 67, 68, 69, 70, 71, 72, 73, 32, 74, 75, 76, 77, 78, 79, 80, 81, 82, 83, 84, 85, 86, 87, 88, 89, 90, 91, 92, 93, 94, 95, 96, 97, 98, 99, 100, 101, 102, 103, 104, 105, 106, 107, 108, 109, 110, 111, 112, 113, 114, 115, 116, 117, 118, 119, 120, 121, 122, 123, 124, 125, 126, 127, 128, 129, 130, 131, 132, 133, 134, 135, 136, 137, 138, 139, 140, 24, 155, 156, 157, 158, 159, 160] rfl (by decide +kernel)
set_option maxRecDepth 200000 in
theorem gX6_labelAll_X2_setAll : GoodIn wsX6_labelAll (va_wsS RX6 123 yX2_setAll wsX2_setAll) := goodIn_app (goodIn_of _ (by decide +kernel)) ggX6_labelAll_X2_setAll
set_option maxRecDepth 200000 in
theorem ggX6_labelAll_X4_labelCount : GoodIn wsX6_labelAll wsX4_labelCount := goodIn_r _ [144, 23, 145, 123, 124, 21, 125, 31, 155, 156, 157, 158, 159, 160] rfl (by decide +kernel)
set_option maxRecDepth 200000 in
theorem gX6_labelAll_X4_labelCount : GoodIn wsX6_labelAll (wsV RX6 126 RX4 yX4_labelCount wsX4_labelCount) := goodIn_app (goodIn_of _ (by decide +kernel)) ggX6_labelAll_X4_labelCount
theorem dX6_labelAll_0 : decode cX6_labelAll 0 = .ok (.aload_n 0, 1) := by decide +kernel
theorem dX6_labelAll_1 : decode cX6_labelAll 1 = .ok (.getfield 19, 3) := by decide +kernel
theorem dX6_labelAll_4 : decode cX6_labelAll 4 = .ok (.aload_n 0, 1) := by decide +kernel
theorem dX6_labelAll_5 : decode cX6_labelAll 5 = .ok (.getfield 10, 3) := by decide +kernel
theorem dX6_labelAll_8 : decode cX6_labelAll 8 = .ok (.invokevirtual 55, 3) := by decide +kernel
theorem dX6_labelAll_11 : decode cX6_labelAll 11 = .ok (.aload_n 0, 1) := by decide +kernel
theorem dX6_labelAll_12 : decode cX6_labelAll 12 = .ok (.getfield 10, 3) := by decide +kernel
theorem dX6_labelAll_15 : decode cX6_labelAll 15 = .ok (.invokestatic 123, 3) := by decide +kernel
theorem dX6_labelAll_18 : decode cX6_labelAll 18 = .ok (.aload_n 0, 1) := by decide +kernel
theorem dX6_labelAll_19 : decode cX6_labelAll 19 = .ok (.getfield 10, 3) := by decide +kernel
theorem dX6_labelAll_22 : decode cX6_labelAll 22 = .ok (.invokevirtual 126, 3) := by decide +kernel
theorem dX6_labelAll_25 : decode cX6_labelAll 25 = .ok (.ireturn, 1) := by decide +kernel
set_option maxRecDepth 200000 in
theorem ggX6_setGap_X1_save : GoodIn wsX6_setGap wsX1_save := goodIn_r _ [9, 10, 11, 12, 13, 14, 8, 15, 16, 17, 18, 19, 20, 21, 22, 23, 24, 25, 26, 27, 28, 29, 30, 31, 32, 33, 34, 47, 48, 49, 50, 51, 52, 53, 54, 55, 56, 57] rfl (by decide +kernel)
set_option maxRecDepth 200000 in
theorem gX6_setGap_X1_save : GoodIn wsX6_setGap (wsV RX6 55 RX1 yX1_save wsX1_save) := goodIn_app (goodIn_of _ (by decide +kernel)) ggX6_setGap_X1_save
set_option maxRecDepth 200000 in
theorem ggX6_setGap_X4_gapWidth : GoodIn wsX6_setGap wsX4_gapWidth := goodIn_r _ [38, 26, 52, 53, 54, 55, 56, 57] rfl (by decide +kernel)
set_option maxRecDepth 200000 in
theorem gX6_setGap_X4_gapWidth : GoodIn wsX6_setGap (wsV RX6 134 RX4 yX4_gapWidth wsX4_gapWidth) := goodIn_app (goodIn_of _ (by decide +kernel)) ggX6_setGap_X4_gapWidth
set_option maxRecDepth 200000 in
theorem ggX6_setGap_X4_putGap : GoodIn wsX6_setGap wsX4_putGap := goodIn_r _ [42, 26, 52, 53, 54, 55, 56, 57] rfl (by decide +kernel)
set_option maxRecDepth 200000 in
theorem gX6_setGap_X4_putGap : GoodIn wsX6_setGap (wsV RX6 137 RX4 yX4_putGap wsX4_putGap) := goodIn_app (goodIn_of _ (by decide +kernel)) ggX6_setGap_X4_putGap
theorem dX6_setGap_0 : decode cX6_setGap 0 = .ok (.iload_n 1, 1) := by decide +kernel
theorem dX6_setGap_1 : decode cX6_setGap 1 = .ok (.iconst 1, 1) := by decide +kernel
theorem dX6_setGap_2 : decode cX6_setGap 2 = .ok (.if_icmp .lt 9, 3) := by decide +kernel
theorem dX6_setGap_5 : decode cX6_setGap 5 = .ok (.iload_n 1, 1) := by decide +kernel
theorem dX6_setGap_6 : decode cX6_setGap 6 = .ok (.bipush 6, 2) := by decide +kernel
theorem dX6_setGap_8 : decode cX6_setGap 8 = .ok (.if_icmp .le 13, 3) := by decide +kernel
theorem dX6_setGap_11 : decode cX6_setGap 11 = .ok (.new 129, 3) := by decide +kernel
theorem dX6_setGap_14 : decode cX6_setGap 14 = .ok (.dup, 1) := by decide +kernel
theorem dX6_setGap_15 : decode cX6_setGap 15 = .ok (.ldc 131, 2) := by decide +kernel
theorem dX6_setGap_17 : decode cX6_setGap 17 = .ok (.invokespecial 133, 3) := by decide +kernel
theorem dX6_setGap_20 : decode cX6_setGap 20 = .ok (.athrow, 1) := by decide +kernel
theorem dX6_setGap_21 : decode cX6_setGap 21 = .ok (.aload_n 0, 1) := by decide +kernel
theorem dX6_setGap_22 : decode cX6_setGap 22 = .ok (.getfield 19, 3) := by decide +kernel
theorem dX6_setGap_25 : decode cX6_setGap 25 = .ok (.aload_n 0, 1) := by decide +kernel
theorem dX6_setGap_26 : decode cX6_setGap 26 = .ok (.getfield 10, 3) := by decide +kernel
theorem dX6_setGap_29 : decode cX6_setGap 29 = .ok (.invokevirtual 55, 3) := by decide +kernel
theorem dX6_setGap_32 : decode cX6_setGap 32 = .ok (.aload_n 0, 1) := by decide +kernel
theorem dX6_setGap_33 : decode cX6_setGap 33 = .ok (.getfield 10, 3) := by decide +kernel
theorem dX6_setGap_36 : decode cX6_setGap 36 = .ok (.invokevirtual 134, 3) := by decide +kernel
theorem dX6_setGap_39 : decode cX6_setGap 39 = .ok (.istore_n 2, 1) := by decide +kernel
theorem dX6_setGap_40 : decode cX6_setGap 40 = .ok (.aload_n 0, 1) := by decide +kernel
theorem dX6_setGap_41 : decode cX6_setGap 41 = .ok (.getfield 10, 3) := by decide +kernel
theorem dX6_setGap_44 : decode cX6_setGap 44 = .ok (.iload_n 1, 1) := by decide +kernel
theorem dX6_setGap_45 : decode cX6_setGap 45 = .ok (.invokevirtual 137, 3) := by decide +kernel
theorem dX6_setGap_48 : decode cX6_setGap 48 = .ok (.iload_n 2, 1) := by decide +kernel
theorem dX6_setGap_49 : decode cX6_setGap 49 = .ok (.ireturn, 1) := by decide +kernel
set_option maxRecDepth 200000 in
theorem ggX6_lines_X4_lineCount : GoodIn wsX6_lines wsX4_lineCount := goodIn_r _ [6, 7, 12, 13, 14, 15, 16, 17] rfl (by decide +kernel)
set_option maxRecDepth 200000 in
theorem gX6_lines_X4_lineCount : GoodIn wsX6_lines (wsV RX6 84 RX4 yX4_lineCount wsX4_lineCount) := goodIn_app (goodIn_of _ (by decide +kernel)) ggX6_lines_X4_lineCount
theorem dX6_lines_0 : decode cX6_lines 0 = .ok (.aload_n 0, 1) := by decide +kernel
theorem dX6_lines_1 : decode cX6_lines 1 = .ok (.getfield 10, 3) := by decide +kernel
theorem dX6_lines_4 : decode cX6_lines 4 = .ok (.invokevirtual 84, 3) := by decide +kernel
theorem dX6_lines_7 : decode cX6_lines 7 = .ok (.ireturn, 1) := by decide +kernel
set_option maxRecDepth 200000 in
theorem ggX6_levelOf_X6_requireLine : GoodIn wsX6_levelOf wsX6_requireLine := goodIn_ca (goodIn_r _ [6, 7, 8, 1, 9, 10, 11, 12, 13, 14, 20, 21, 22, 23, 24, 25, 26, 27, 28, 29] rfl (by decide +kernel)) (goodIn_sub (fun _ h => List.mem_cons_of_mem _ (List.mem_append_right _ h)) (by decide +kernel))
set_option maxRecDepth 200000 in
theorem gX6_levelOf_X6_requireLine : GoodIn wsX6_levelOf (wsV RX6 63 RX6 yX6_requireLine wsX6_requireLine) := goodIn_app (goodIn_of _ (by decide +kernel)) ggX6_levelOf_X6_requireLine
set_option maxRecDepth 200000 in
theorem ggX6_levelOf_X4_levelIn : GoodIn wsX6_levelOf wsX4_levelIn := goodIn_r _ [18, 14, 19, 24, 25, 26, 27, 28, 29] rfl (by decide +kernel)
set_option maxRecDepth 200000 in
theorem gX6_levelOf_X4_levelIn : GoodIn wsX6_levelOf (wsV RX6 88 RX4 yX4_levelIn wsX4_levelIn) := goodIn_app (goodIn_of _ (by decide +kernel)) ggX6_levelOf_X4_levelIn
theorem dX6_levelOf_0 : decode cX6_levelOf 0 = .ok (.aload_n 0, 1) := by decide +kernel
theorem dX6_levelOf_1 : decode cX6_levelOf 1 = .ok (.iload_n 1, 1) := by decide +kernel
theorem dX6_levelOf_2 : decode cX6_levelOf 2 = .ok (.invokevirtual 63, 3) := by decide +kernel
theorem dX6_levelOf_5 : decode cX6_levelOf 5 = .ok (.aload_n 0, 1) := by decide +kernel
theorem dX6_levelOf_6 : decode cX6_levelOf 6 = .ok (.getfield 10, 3) := by decide +kernel
theorem dX6_levelOf_9 : decode cX6_levelOf 9 = .ok (.iload_n 1, 1) := by decide +kernel
theorem dX6_levelOf_10 : decode cX6_levelOf 10 = .ok (.invokevirtual 88, 3) := by decide +kernel
theorem dX6_levelOf_13 : decode cX6_levelOf 13 = .ok (.ireturn, 1) := by decide +kernel
set_option maxRecDepth 200000 in
theorem ggX6_stepsOf_X6_requireLine : GoodIn wsX6_stepsOf wsX6_requireLine := goodIn_ca (goodIn_r _ [6, 7, 8, 1, 9, 10, 11, 12, 13, 14, 20, 21, 22, 23, 24, 25, 26, 27, 28, 29] rfl (by decide +kernel)) (goodIn_sub (fun _ h => List.mem_cons_of_mem _ (List.mem_append_right _ h)) (by decide +kernel))
set_option maxRecDepth 200000 in
theorem gX6_stepsOf_X6_requireLine : GoodIn wsX6_stepsOf (wsV RX6 63 RX6 yX6_requireLine wsX6_requireLine) := goodIn_app (goodIn_of _ (by decide +kernel)) ggX6_stepsOf_X6_requireLine
set_option maxRecDepth 200000 in
theorem ggX6_stepsOf_X4_stepCount : GoodIn wsX6_stepsOf wsX4_stepCount := goodIn_r _ [18, 14, 19, 24, 25, 26, 27, 28, 29] rfl (by decide +kernel)
set_option maxRecDepth 200000 in
theorem gX6_stepsOf_X4_stepCount : GoodIn wsX6_stepsOf (wsV RX6 140 RX4 yX4_stepCount wsX4_stepCount) := goodIn_app (goodIn_of _ (by decide +kernel)) ggX6_stepsOf_X4_stepCount
theorem dX6_stepsOf_0 : decode cX6_stepsOf 0 = .ok (.aload_n 0, 1) := by decide +kernel
theorem dX6_stepsOf_1 : decode cX6_stepsOf 1 = .ok (.iload_n 1, 1) := by decide +kernel
theorem dX6_stepsOf_2 : decode cX6_stepsOf 2 = .ok (.invokevirtual 63, 3) := by decide +kernel
theorem dX6_stepsOf_5 : decode cX6_stepsOf 5 = .ok (.aload_n 0, 1) := by decide +kernel
theorem dX6_stepsOf_6 : decode cX6_stepsOf 6 = .ok (.getfield 10, 3) := by decide +kernel
theorem dX6_stepsOf_9 : decode cX6_stepsOf 9 = .ok (.iload_n 1, 1) := by decide +kernel
theorem dX6_stepsOf_10 : decode cX6_stepsOf 10 = .ok (.invokevirtual 140, 3) := by decide +kernel
theorem dX6_stepsOf_13 : decode cX6_stepsOf 13 = .ok (.ireturn, 1) := by decide +kernel
set_option maxRecDepth 200000 in
theorem ggX6_pointOf_X6_requireNumber : GoodIn wsX6_pointOf wsX6_requireNumber := goodIn_ca (goodIn_r _ [6, 7, 8, 1, 9, 10, 11, 12, 13, 14, 15, 21, 22, 23, 24, 25, 26, 27, 28, 29, 30] rfl (by decide +kernel)) (goodIn_sub (fun _ h => List.mem_cons_of_mem _ (List.mem_append_right _ h)) (by decide +kernel))
set_option maxRecDepth 200000 in
theorem gX6_pointOf_X6_requireNumber : GoodIn wsX6_pointOf (wsV RX6 98 RX6 yX6_requireNumber wsX6_requireNumber) := goodIn_app (goodIn_of _ (by decide +kernel)) ggX6_pointOf_X6_requireNumber
set_option maxRecDepth 200000 in
theorem ggX6_pointOf_X4_pointAt : GoodIn wsX6_pointOf wsX4_pointAt := goodIn_r _ [19, 14, 15, 20, 25, 26, 27, 28, 29, 30] rfl (by decide +kernel)
set_option maxRecDepth 200000 in
theorem gX6_pointOf_X4_pointAt : GoodIn wsX6_pointOf (wsV RX6 143 RX4 yX4_pointAt wsX4_pointAt) := goodIn_app (goodIn_of _ (by decide +kernel)) ggX6_pointOf_X4_pointAt
theorem dX6_pointOf_0 : decode cX6_pointOf 0 = .ok (.aload_n 0, 1) := by decide +kernel
theorem dX6_pointOf_1 : decode cX6_pointOf 1 = .ok (.iload_n 1, 1) := by decide +kernel
theorem dX6_pointOf_2 : decode cX6_pointOf 2 = .ok (.iload_n 2, 1) := by decide +kernel
theorem dX6_pointOf_3 : decode cX6_pointOf 3 = .ok (.invokevirtual 98, 3) := by decide +kernel
theorem dX6_pointOf_6 : decode cX6_pointOf 6 = .ok (.aload_n 0, 1) := by decide +kernel
theorem dX6_pointOf_7 : decode cX6_pointOf 7 = .ok (.getfield 10, 3) := by decide +kernel
theorem dX6_pointOf_10 : decode cX6_pointOf 10 = .ok (.iload_n 1, 1) := by decide +kernel
theorem dX6_pointOf_11 : decode cX6_pointOf 11 = .ok (.iload_n 2, 1) := by decide +kernel
theorem dX6_pointOf_12 : decode cX6_pointOf 12 = .ok (.invokevirtual 143, 3) := by decide +kernel
theorem dX6_pointOf_15 : decode cX6_pointOf 15 = .ok (.ireturn, 1) := by decide +kernel
set_option maxRecDepth 200000 in
theorem ggX6_lineAt_X6_requirePoint : GoodIn wsX6_lineAt wsX6_requirePoint := goodIn_ca (goodIn_r _ [5, 6, 7, 8, 9, 4, 10] rfl (by decide +kernel)) (goodIn_sub (fun _ h => List.mem_cons_of_mem _ (List.mem_append_right _ h)) (by decide +kernel))
set_option maxRecDepth 200000 in
theorem gX6_lineAt_X6_requirePoint : GoodIn wsX6_lineAt (va_wsS RX6 37 yX6_requirePoint wsX6_requirePoint) := goodIn_app (goodIn_of _ (by decide +kernel)) ggX6_lineAt_X6_requirePoint
set_option maxRecDepth 200000 in
theorem ggX6_lineAt_X4_lineOn : GoodIn wsX6_lineAt wsX4_lineOn := goodIn_r _ [15, 16, 17, 18, 19, 14, 20, 21, 22, 23, 24, 25, 26, 27, 28, 29, 30, 35, 36, 37, 38, 39, 40] rfl (by decide +kernel)
set_option maxRecDepth 200000 in
theorem gX6_lineAt_X4_lineOn : GoodIn wsX6_lineAt (wsV RX6 146 RX4 yX4_lineOn wsX4_lineOn) := goodIn_app (goodIn_of _ (by decide +kernel)) ggX6_lineAt_X4_lineOn
theorem dX6_lineAt_0 : decode cX6_lineAt 0 = .ok (.iload_n 1, 1) := by decide +kernel
theorem dX6_lineAt_1 : decode cX6_lineAt 1 = .ok (.invokestatic 37, 3) := by decide +kernel
theorem dX6_lineAt_4 : decode cX6_lineAt 4 = .ok (.aload_n 0, 1) := by decide +kernel
theorem dX6_lineAt_5 : decode cX6_lineAt 5 = .ok (.getfield 10, 3) := by decide +kernel
theorem dX6_lineAt_8 : decode cX6_lineAt 8 = .ok (.iload_n 1, 1) := by decide +kernel
theorem dX6_lineAt_9 : decode cX6_lineAt 9 = .ok (.invokevirtual 146, 3) := by decide +kernel
theorem dX6_lineAt_12 : decode cX6_lineAt 12 = .ok (.ireturn, 1) := by decide +kernel
set_option maxRecDepth 200000 in
theorem ggX6_isClosed_X6_requireLine : GoodIn wsX6_isClosed wsX6_requireLine := goodIn_ca (goodIn_r _ [6, 7, 8, 1, 9, 10, 11, 12, 13, 14, 21, 22, 23, 24, 25, 26, 27, 28, 29, 30] rfl (by decide +kernel)) (goodIn_sub (fun _ h => List.mem_cons_of_mem _ (List.mem_append_right _ h)) (by decide +kernel))
set_option maxRecDepth 200000 in
theorem gX6_isClosed_X6_requireLine : GoodIn wsX6_isClosed (wsV RX6 63 RX6 yX6_requireLine wsX6_requireLine) := goodIn_app (goodIn_of _ (by decide +kernel)) ggX6_isClosed_X6_requireLine
set_option maxRecDepth 200000 in
theorem ggX6_isClosed_X4_isRing : GoodIn wsX6_isClosed wsX4_isRing := goodIn_r _ [18, 14, 19, 20, 25, 26, 27, 28, 29, 30] rfl (by decide +kernel)
set_option maxRecDepth 200000 in
theorem gX6_isClosed_X4_isRing : GoodIn wsX6_isClosed (wsV RX6 78 RX4 yX4_isRing wsX4_isRing) := goodIn_app (goodIn_of _ (by decide +kernel)) ggX6_isClosed_X4_isRing
theorem dX6_isClosed_0 : decode cX6_isClosed 0 = .ok (.aload_n 0, 1) := by decide +kernel
theorem dX6_isClosed_1 : decode cX6_isClosed 1 = .ok (.iload_n 1, 1) := by decide +kernel
theorem dX6_isClosed_2 : decode cX6_isClosed 2 = .ok (.invokevirtual 63, 3) := by decide +kernel
theorem dX6_isClosed_5 : decode cX6_isClosed 5 = .ok (.aload_n 0, 1) := by decide +kernel
theorem dX6_isClosed_6 : decode cX6_isClosed 6 = .ok (.getfield 10, 3) := by decide +kernel
theorem dX6_isClosed_9 : decode cX6_isClosed 9 = .ok (.iload_n 1, 1) := by decide +kernel
theorem dX6_isClosed_10 : decode cX6_isClosed 10 = .ok (.invokevirtual 78, 3) := by decide +kernel
theorem dX6_isClosed_13 : decode cX6_isClosed 13 = .ok (.ireturn, 1) := by decide +kernel
set_option maxRecDepth 200000 in
theorem ggX6_whyNotStepped_X6_requireLine : GoodIn wsX6_whyNotStepped wsX6_requireLine := goodIn_ca (goodIn_r _ [6, 7, 8, 1, 9, 10, 11, 12, 13, 14, 72, 73, 74, 75, 76, 77, 78, 79, 80, 81] rfl (by decide +kernel)) (goodIn_sub (fun _ h => List.mem_cons_of_mem _ (List.mem_append_left _ (List.mem_append_right _ h))) (by decide +kernel))
set_option maxRecDepth 200000 in
theorem gX6_whyNotStepped_X6_requireLine : GoodIn wsX6_whyNotStepped (wsV RX6 63 RX6 yX6_requireLine wsX6_requireLine) := goodIn_app (goodIn_of _ (by decide +kernel)) ggX6_whyNotStepped_X6_requireLine
set_option maxRecDepth 200000 in
theorem ggX6_whyNotStepped_X6_requireDirection : GoodIn wsX6_whyNotStepped wsX6_requireDirection := goodIn_ca (goodIn_r _ [17, 18, 19, 20, 21, 5, 22] rfl (by decide +kernel)) (goodIn_sub (fun _ h => List.mem_cons_of_mem _ (List.mem_append_right _ h)) (by decide +kernel))
set_option maxRecDepth 200000 in
theorem gX6_whyNotStepped_X6_requireDirection : GoodIn wsX6_whyNotStepped (va_wsS RX6 66 yX6_requireDirection wsX6_requireDirection) := goodIn_app (goodIn_of _ (by decide +kernel)) ggX6_whyNotStepped_X6_requireDirection
set_option maxRecDepth 200000 in
theorem ggX6_whyNotStepped_X4_reasonAgainstStep : GoodIn wsX6_whyNotStepped wsX4_reasonAgainstStep := goodIn_r _ [26, 27, 28, 29, 12, 30, 14, 31, 32, 33, 34, 35, 36, 37, 38, 39, 40, 41, 5, 42, 43, 44, 45, 46, 47, 20, 21, 22, 48, 49, 50, 51, 52, 53, 54, 55, 56, 57, 58, 59, 60, 61, 62, 63, 64, 65, 66, 67, 68, 69, 70, 71, 76, 77, 78, 79, 80, 81] rfl (by decide +kernel)
set_option maxRecDepth 200000 in
theorem gX6_whyNotStepped_X4_reasonAgainstStep : GoodIn wsX6_whyNotStepped (wsV RX6 69 RX4 yX4_reasonAgainstStep wsX4_reasonAgainstStep) := goodIn_app (goodIn_of _ (by decide +kernel)) ggX6_whyNotStepped_X4_reasonAgainstStep
theorem dX6_whyNotStepped_0 : decode cX6_whyNotStepped 0 = .ok (.aload_n 0, 1) := by decide +kernel
theorem dX6_whyNotStepped_1 : decode cX6_whyNotStepped 1 = .ok (.iload_n 1, 1) := by decide +kernel
theorem dX6_whyNotStepped_2 : decode cX6_whyNotStepped 2 = .ok (.invokevirtual 63, 3) := by decide +kernel
theorem dX6_whyNotStepped_5 : decode cX6_whyNotStepped 5 = .ok (.iload_n 2, 1) := by decide +kernel
theorem dX6_whyNotStepped_6 : decode cX6_whyNotStepped 6 = .ok (.invokestatic 66, 3) := by decide +kernel
theorem dX6_whyNotStepped_9 : decode cX6_whyNotStepped 9 = .ok (.aload_n 0, 1) := by decide +kernel
theorem dX6_whyNotStepped_10 : decode cX6_whyNotStepped 10 = .ok (.getfield 10, 3) := by decide +kernel
theorem dX6_whyNotStepped_13 : decode cX6_whyNotStepped 13 = .ok (.iload_n 1, 1) := by decide +kernel
theorem dX6_whyNotStepped_14 : decode cX6_whyNotStepped 14 = .ok (.iload_n 2, 1) := by decide +kernel
theorem dX6_whyNotStepped_15 : decode cX6_whyNotStepped 15 = .ok (.invokevirtual 69, 3) := by decide +kernel
theorem dX6_whyNotStepped_18 : decode cX6_whyNotStepped 18 = .ok (.ireturn, 1) := by decide +kernel
set_option maxRecDepth 200000 in
theorem ggX6_bendAt_X6_requireNumber : GoodIn wsX6_bendAt wsX6_requireNumber := goodIn_ca (goodIn_r _ [6, 7, 8, 1, 9, 10, 11, 12, 13, 14, 15, 40, 41, 42, 43, 44, 45, 46, 47, 48, 49] rfl (by decide +kernel)) (goodIn_sub (fun _ h => List.mem_cons_of_mem _ (List.mem_append_right _ h)) (by decide +kernel))
set_option maxRecDepth 200000 in
theorem gX6_bendAt_X6_requireNumber : GoodIn wsX6_bendAt (wsV RX6 98 RX6 yX6_requireNumber wsX6_requireNumber) := goodIn_app (goodIn_of _ (by decide +kernel)) ggX6_bendAt_X6_requireNumber
set_option maxRecDepth 200000 in
theorem ggX6_bendAt_X4_bendThere : GoodIn wsX6_bendAt wsX4_bendThere := goodIn_r _ [19, 20, 21, 22, 23, 24, 25, 26, 27, 28, 29, 12, 30, 14, 15, 31, 32, 33, 34, 35, 36, 37, 38, 39, 44, 45, 46, 47, 48, 49] rfl (by decide +kernel)
set_option maxRecDepth 200000 in
theorem gX6_bendAt_X4_bendThere : GoodIn wsX6_bendAt (wsV RX6 149 RX4 yX4_bendThere wsX4_bendThere) := goodIn_app (goodIn_of _ (by decide +kernel)) ggX6_bendAt_X4_bendThere
theorem dX6_bendAt_0 : decode cX6_bendAt 0 = .ok (.aload_n 0, 1) := by decide +kernel
theorem dX6_bendAt_1 : decode cX6_bendAt 1 = .ok (.iload_n 1, 1) := by decide +kernel
theorem dX6_bendAt_2 : decode cX6_bendAt 2 = .ok (.iload_n 2, 1) := by decide +kernel
theorem dX6_bendAt_3 : decode cX6_bendAt 3 = .ok (.invokevirtual 98, 3) := by decide +kernel
theorem dX6_bendAt_6 : decode cX6_bendAt 6 = .ok (.aload_n 0, 1) := by decide +kernel
theorem dX6_bendAt_7 : decode cX6_bendAt 7 = .ok (.getfield 10, 3) := by decide +kernel
theorem dX6_bendAt_10 : decode cX6_bendAt 10 = .ok (.iload_n 1, 1) := by decide +kernel
theorem dX6_bendAt_11 : decode cX6_bendAt 11 = .ok (.iload_n 2, 1) := by decide +kernel
theorem dX6_bendAt_12 : decode cX6_bendAt 12 = .ok (.invokevirtual 149, 3) := by decide +kernel
theorem dX6_bendAt_15 : decode cX6_bendAt 15 = .ok (.ireturn, 1) := by decide +kernel
set_option maxRecDepth 200000 in
theorem ggX6_lengthByKinds_X6_requireLine : GoodIn wsX6_lengthByKinds wsX6_requireLine := goodIn_ca (goodIn_r _ [6, 7, 8, 1, 9, 10, 11, 12, 13, 14, 32, 33, 34, 35, 36, 37, 38, 39, 40, 41] rfl (by decide +kernel)) (goodIn_sub (fun _ h => List.mem_cons_of_mem _ (List.mem_append_right _ h)) (by decide +kernel))
set_option maxRecDepth 200000 in
theorem gX6_lengthByKinds_X6_requireLine : GoodIn wsX6_lengthByKinds (wsV RX6 63 RX6 yX6_requireLine wsX6_requireLine) := goodIn_app (goodIn_of _ (by decide +kernel)) ggX6_lengthByKinds_X6_requireLine
set_option maxRecDepth 200000 in
theorem ggX6_lengthByKinds_X4_stepCount : GoodIn wsX6_lengthByKinds wsX4_stepCount := goodIn_r _ [18, 14, 19, 36, 37, 38, 39, 40, 41] rfl (by decide +kernel)
set_option maxRecDepth 200000 in
theorem gX6_lengthByKinds_X4_stepCount : GoodIn wsX6_lengthByKinds (wsV RX6 140 RX4 yX4_stepCount wsX4_stepCount) := goodIn_app (goodIn_of _ (by decide +kernel)) ggX6_lengthByKinds_X4_stepCount
set_option maxRecDepth 200000 in
theorem ggX6_lengthByKinds_X4_directionAt : GoodIn wsX6_lengthByKinds wsX4_directionAt := goodIn_r _ [23, 14, 19, 24, 36, 37, 38, 39, 40, 41] rfl (by decide +kernel)
set_option maxRecDepth 200000 in
theorem gX6_lengthByKinds_X4_directionAt : GoodIn wsX6_lengthByKinds (wsV RX6 152 RX4 yX4_directionAt wsX4_directionAt) := goodIn_app (goodIn_of _ (by decide +kernel)) ggX6_lengthByKinds_X4_directionAt
set_option maxRecDepth 200000 in
theorem ggX6_lengthByKinds_X6_isSlanting : GoodIn wsX6_lengthByKinds wsX6_isSlanting := goodIn_r _ [27] rfl (by decide +kernel)
set_option maxRecDepth 200000 in
theorem gX6_lengthByKinds_X6_isSlanting : GoodIn wsX6_lengthByKinds (va_wsS RX6 155 yX6_isSlanting wsX6_isSlanting) := goodIn_app (goodIn_of _ (by decide +kernel)) ggX6_lengthByKinds_X6_isSlanting
set_option maxRecDepth 200000 in
theorem ggX6_lengthByKinds_X6_slantingLength : GoodIn wsX6_lengthByKinds wsX6_slantingLength := goodIn_r _ [30, 31] rfl (by decide +kernel)
set_option maxRecDepth 200000 in
theorem gX6_lengthByKinds_X6_slantingLength : GoodIn wsX6_lengthByKinds (va_wsS RX6 158 yX6_slantingLength wsX6_slantingLength) := goodIn_app (goodIn_of _ (by decide +kernel)) ggX6_lengthByKinds_X6_slantingLength
theorem dX6_lengthByKinds_0 : decode cX6_lengthByKinds 0 = .ok (.aload_n 0, 1) := by decide +kernel
theorem dX6_lengthByKinds_1 : decode cX6_lengthByKinds 1 = .ok (.iload_n 1, 1) := by decide +kernel
theorem dX6_lengthByKinds_2 : decode cX6_lengthByKinds 2 = .ok (.invokevirtual 63, 3) := by decide +kernel
theorem dX6_lengthByKinds_5 : decode cX6_lengthByKinds 5 = .ok (.aload_n 0, 1) := by decide +kernel
theorem dX6_lengthByKinds_6 : decode cX6_lengthByKinds 6 = .ok (.getfield 10, 3) := by decide +kernel
theorem dX6_lengthByKinds_9 : decode cX6_lengthByKinds 9 = .ok (.iload_n 1, 1) := by decide +kernel
theorem dX6_lengthByKinds_10 : decode cX6_lengthByKinds 10 = .ok (.invokevirtual 140, 3) := by decide +kernel
theorem dX6_lengthByKinds_13 : decode cX6_lengthByKinds 13 = .ok (.istore_n 2, 1) := by decide +kernel
theorem dX6_lengthByKinds_14 : decode cX6_lengthByKinds 14 = .ok (.iconst 0, 1) := by decide +kernel
theorem dX6_lengthByKinds_15 : decode cX6_lengthByKinds 15 = .ok (.istore_n 3, 1) := by decide +kernel
theorem dX6_lengthByKinds_16 : decode cX6_lengthByKinds 16 = .ok (.iconst 0, 1) := by decide +kernel
theorem dX6_lengthByKinds_17 : decode cX6_lengthByKinds 17 = .ok (.istore 4, 2) := by decide +kernel
theorem dX6_lengthByKinds_19 : decode cX6_lengthByKinds 19 = .ok (.iload 4, 2) := by decide +kernel
theorem dX6_lengthByKinds_21 : decode cX6_lengthByKinds 21 = .ok (.iload_n 2, 1) := by decide +kernel
theorem dX6_lengthByKinds_22 : decode cX6_lengthByKinds 22 = .ok (.if_icmp .ge 28, 3) := by decide +kernel
theorem dX6_lengthByKinds_25 : decode cX6_lengthByKinds 25 = .ok (.aload_n 0, 1) := by decide +kernel
theorem dX6_lengthByKinds_26 : decode cX6_lengthByKinds 26 = .ok (.getfield 10, 3) := by decide +kernel
theorem dX6_lengthByKinds_29 : decode cX6_lengthByKinds 29 = .ok (.iload_n 1, 1) := by decide +kernel
theorem dX6_lengthByKinds_30 : decode cX6_lengthByKinds 30 = .ok (.iload 4, 2) := by decide +kernel
theorem dX6_lengthByKinds_32 : decode cX6_lengthByKinds 32 = .ok (.invokevirtual 152, 3) := by decide +kernel
theorem dX6_lengthByKinds_35 : decode cX6_lengthByKinds 35 = .ok (.invokestatic 155, 3) := by decide +kernel
theorem dX6_lengthByKinds_38 : decode cX6_lengthByKinds 38 = .ok (.ifCond .eq 6, 3) := by decide +kernel
theorem dX6_lengthByKinds_41 : decode cX6_lengthByKinds 41 = .ok (.iinc 3 1, 3) := by decide +kernel
theorem dX6_lengthByKinds_44 : decode cX6_lengthByKinds 44 = .ok (.iinc 4 1, 3) := by decide +kernel
theorem dX6_lengthByKinds_47 : decode cX6_lengthByKinds 47 = .ok (.goto (-28), 3) := by decide +kernel
theorem dX6_lengthByKinds_50 : decode cX6_lengthByKinds 50 = .ok (.iload_n 2, 1) := by decide +kernel
theorem dX6_lengthByKinds_51 : decode cX6_lengthByKinds 51 = .ok (.iload_n 3, 1) := by decide +kernel
theorem dX6_lengthByKinds_52 : decode cX6_lengthByKinds 52 = .ok (.isub, 1) := by decide +kernel
theorem dX6_lengthByKinds_53 : decode cX6_lengthByKinds 53 = .ok (.i2d, 1) := by decide +kernel
theorem dX6_lengthByKinds_54 : decode cX6_lengthByKinds 54 = .ok (.iload_n 3, 1) := by decide +kernel
theorem dX6_lengthByKinds_55 : decode cX6_lengthByKinds 55 = .ok (.i2d, 1) := by decide +kernel
theorem dX6_lengthByKinds_56 : decode cX6_lengthByKinds 56 = .ok (.invokestatic 158, 3) := by decide +kernel
theorem dX6_lengthByKinds_59 : decode cX6_lengthByKinds 59 = .ok (.dmul, 1) := by decide +kernel
theorem dX6_lengthByKinds_60 : decode cX6_lengthByKinds 60 = .ok (.dadd, 1) := by decide +kernel
theorem dX6_lengthByKinds_61 : decode cX6_lengthByKinds 61 = .ok (.dreturn, 1) := by decide +kernel
set_option maxRecDepth 200000 in
theorem ggX6_lengthBySteps_X6_requireLine : GoodIn wsX6_lengthBySteps wsX6_requireLine := goodIn_ca (goodIn_r _ [6, 7, 8, 1, 9, 10, 11, 12, 13, 14, 32, 33, 34, 35, 36, 37, 38, 39, 40, 41] rfl (by decide +kernel)) (goodIn_sub (fun _ h => List.mem_cons_of_mem _ (List.mem_append_right _ h)) (by decide +kernel))
set_option maxRecDepth 200000 in
theorem gX6_lengthBySteps_X6_requireLine : GoodIn wsX6_lengthBySteps (wsV RX6 63 RX6 yX6_requireLine wsX6_requireLine) := goodIn_app (goodIn_of _ (by decide +kernel)) ggX6_lengthBySteps_X6_requireLine
set_option maxRecDepth 200000 in
theorem ggX6_lengthBySteps_X4_stepCount : GoodIn wsX6_lengthBySteps wsX4_stepCount := goodIn_r _ [18, 14, 19, 36, 37, 38, 39, 40, 41] rfl (by decide +kernel)
set_option maxRecDepth 200000 in
theorem gX6_lengthBySteps_X4_stepCount : GoodIn wsX6_lengthBySteps (wsV RX6 140 RX4 yX4_stepCount wsX4_stepCount) := goodIn_app (goodIn_of _ (by decide +kernel)) ggX6_lengthBySteps_X4_stepCount
set_option maxRecDepth 200000 in
theorem ggX6_lengthBySteps_X4_directionAt : GoodIn wsX6_lengthBySteps wsX4_directionAt := goodIn_r _ [23, 14, 19, 24, 36, 37, 38, 39, 40, 41] rfl (by decide +kernel)
set_option maxRecDepth 200000 in
theorem gX6_lengthBySteps_X4_directionAt : GoodIn wsX6_lengthBySteps (wsV RX6 152 RX4 yX4_directionAt wsX4_directionAt) := goodIn_app (goodIn_of _ (by decide +kernel)) ggX6_lengthBySteps_X4_directionAt
set_option maxRecDepth 200000 in
theorem ggX6_lengthBySteps_X6_isSlanting : GoodIn wsX6_lengthBySteps wsX6_isSlanting := goodIn_r _ [27] rfl (by decide +kernel)
set_option maxRecDepth 200000 in
theorem gX6_lengthBySteps_X6_isSlanting : GoodIn wsX6_lengthBySteps (va_wsS RX6 155 yX6_isSlanting wsX6_isSlanting) := goodIn_app (goodIn_of _ (by decide +kernel)) ggX6_lengthBySteps_X6_isSlanting
set_option maxRecDepth 200000 in
theorem ggX6_lengthBySteps_X6_slantingLength : GoodIn wsX6_lengthBySteps wsX6_slantingLength := goodIn_r _ [30, 31] rfl (by decide +kernel)
set_option maxRecDepth 200000 in
theorem gX6_lengthBySteps_X6_slantingLength : GoodIn wsX6_lengthBySteps (va_wsS RX6 158 yX6_slantingLength wsX6_slantingLength) := goodIn_app (goodIn_of _ (by decide +kernel)) ggX6_lengthBySteps_X6_slantingLength
theorem dX6_lengthBySteps_0 : decode cX6_lengthBySteps 0 = .ok (.aload_n 0, 1) := by decide +kernel
theorem dX6_lengthBySteps_1 : decode cX6_lengthBySteps 1 = .ok (.iload_n 1, 1) := by decide +kernel
theorem dX6_lengthBySteps_2 : decode cX6_lengthBySteps 2 = .ok (.invokevirtual 63, 3) := by decide +kernel
theorem dX6_lengthBySteps_5 : decode cX6_lengthBySteps 5 = .ok (.aload_n 0, 1) := by decide +kernel
theorem dX6_lengthBySteps_6 : decode cX6_lengthBySteps 6 = .ok (.getfield 10, 3) := by decide +kernel
theorem dX6_lengthBySteps_9 : decode cX6_lengthBySteps 9 = .ok (.iload_n 1, 1) := by decide +kernel
theorem dX6_lengthBySteps_10 : decode cX6_lengthBySteps 10 = .ok (.invokevirtual 140, 3) := by decide +kernel
theorem dX6_lengthBySteps_13 : decode cX6_lengthBySteps 13 = .ok (.istore_n 2, 1) := by decide +kernel
theorem dX6_lengthBySteps_14 : decode cX6_lengthBySteps 14 = .ok (.dconst 0, 1) := by decide +kernel
theorem dX6_lengthBySteps_15 : decode cX6_lengthBySteps 15 = .ok (.dstore_n 3, 1) := by decide +kernel
theorem dX6_lengthBySteps_16 : decode cX6_lengthBySteps 16 = .ok (.iconst 0, 1) := by decide +kernel
theorem dX6_lengthBySteps_17 : decode cX6_lengthBySteps 17 = .ok (.istore 5, 2) := by decide +kernel
theorem dX6_lengthBySteps_19 : decode cX6_lengthBySteps 19 = .ok (.iload 5, 2) := by decide +kernel
theorem dX6_lengthBySteps_21 : decode cX6_lengthBySteps 21 = .ok (.iload_n 2, 1) := by decide +kernel
theorem dX6_lengthBySteps_22 : decode cX6_lengthBySteps 22 = .ok (.if_icmp .ge 35, 3) := by decide +kernel
theorem dX6_lengthBySteps_25 : decode cX6_lengthBySteps 25 = .ok (.dload_n 3, 1) := by decide +kernel
theorem dX6_lengthBySteps_26 : decode cX6_lengthBySteps 26 = .ok (.aload_n 0, 1) := by decide +kernel
theorem dX6_lengthBySteps_27 : decode cX6_lengthBySteps 27 = .ok (.getfield 10, 3) := by decide +kernel
theorem dX6_lengthBySteps_30 : decode cX6_lengthBySteps 30 = .ok (.iload_n 1, 1) := by decide +kernel
theorem dX6_lengthBySteps_31 : decode cX6_lengthBySteps 31 = .ok (.iload 5, 2) := by decide +kernel
theorem dX6_lengthBySteps_33 : decode cX6_lengthBySteps 33 = .ok (.invokevirtual 152, 3) := by decide +kernel
theorem dX6_lengthBySteps_36 : decode cX6_lengthBySteps 36 = .ok (.invokestatic 155, 3) := by decide +kernel
theorem dX6_lengthBySteps_39 : decode cX6_lengthBySteps 39 = .ok (.ifCond .eq 9, 3) := by decide +kernel
theorem dX6_lengthBySteps_42 : decode cX6_lengthBySteps 42 = .ok (.invokestatic 158, 3) := by decide +kernel
theorem dX6_lengthBySteps_45 : decode cX6_lengthBySteps 45 = .ok (.goto 4, 3) := by decide +kernel
theorem dX6_lengthBySteps_48 : decode cX6_lengthBySteps 48 = .ok (.dconst 1, 1) := by decide +kernel
theorem dX6_lengthBySteps_49 : decode cX6_lengthBySteps 49 = .ok (.dadd, 1) := by decide +kernel
theorem dX6_lengthBySteps_50 : decode cX6_lengthBySteps 50 = .ok (.dstore_n 3, 1) := by decide +kernel
theorem dX6_lengthBySteps_51 : decode cX6_lengthBySteps 51 = .ok (.iinc 5 1, 3) := by decide +kernel
theorem dX6_lengthBySteps_54 : decode cX6_lengthBySteps 54 = .ok (.goto (-35), 3) := by decide +kernel
theorem dX6_lengthBySteps_57 : decode cX6_lengthBySteps 57 = .ok (.dload_n 3, 1) := by decide +kernel
theorem dX6_lengthBySteps_58 : decode cX6_lengthBySteps 58 = .ok (.dreturn, 1) := by decide +kernel
set_option maxRecDepth 200000 in
theorem ggX6_gap_X4_gapWidth : GoodIn wsX6_gap wsX4_gapWidth := goodIn_r _ [6, 7, 12, 13, 14, 15, 16, 17] rfl (by decide +kernel)
set_option maxRecDepth 200000 in
theorem gX6_gap_X4_gapWidth : GoodIn wsX6_gap (wsV RX6 134 RX4 yX4_gapWidth wsX4_gapWidth) := goodIn_app (goodIn_of _ (by decide +kernel)) ggX6_gap_X4_gapWidth
theorem dX6_gap_0 : decode cX6_gap 0 = .ok (.aload_n 0, 1) := by decide +kernel
theorem dX6_gap_1 : decode cX6_gap 1 = .ok (.getfield 10, 3) := by decide +kernel
theorem dX6_gap_4 : decode cX6_gap 4 = .ok (.invokevirtual 134, 3) := by decide +kernel
theorem dX6_gap_7 : decode cX6_gap 7 = .ok (.ireturn, 1) := by decide +kernel
set_option maxRecDepth 200000 in
theorem ggX6_labels_X4_labelCount : GoodIn wsX6_labels wsX4_labelCount := goodIn_r _ [6, 7, 8, 9, 10, 5, 11, 12, 17, 18, 19, 20, 21, 22] rfl (by decide +kernel)
set_option maxRecDepth 200000 in
theorem gX6_labels_X4_labelCount : GoodIn wsX6_labels (wsV RX6 126 RX4 yX4_labelCount wsX4_labelCount) := goodIn_app (goodIn_of _ (by decide +kernel)) ggX6_labels_X4_labelCount
theorem dX6_labels_0 : decode cX6_labels 0 = .ok (.aload_n 0, 1) := by decide +kernel
theorem dX6_labels_1 : decode cX6_labels 1 = .ok (.getfield 10, 3) := by decide +kernel
theorem dX6_labels_4 : decode cX6_labels 4 = .ok (.invokevirtual 126, 3) := by decide +kernel
theorem dX6_labels_7 : decode cX6_labels 7 = .ok (.ireturn, 1) := by decide +kernel
set_option maxRecDepth 200000 in
theorem ggX6_labelOf_X6_requireLine : GoodIn wsX6_labelOf wsX6_requireLine := goodIn_ca (goodIn_r _ [6, 7, 8, 1, 9, 10, 11, 12, 13, 14, 20, 21, 22, 23, 24, 25, 26, 27, 28, 29] rfl (by decide +kernel)) (goodIn_sub (fun _ h => List.mem_cons_of_mem _ (List.mem_append_right _ h)) (by decide +kernel))
set_option maxRecDepth 200000 in
theorem gX6_labelOf_X6_requireLine : GoodIn wsX6_labelOf (wsV RX6 63 RX6 yX6_requireLine wsX6_requireLine) := goodIn_app (goodIn_of _ (by decide +kernel)) ggX6_labelOf_X6_requireLine
set_option maxRecDepth 200000 in
theorem ggX6_labelOf_X4_labelIn : GoodIn wsX6_labelOf wsX4_labelIn := goodIn_r _ [18, 14, 19, 24, 25, 26, 27, 28, 29] rfl (by decide +kernel)
set_option maxRecDepth 200000 in
theorem gX6_labelOf_X4_labelIn : GoodIn wsX6_labelOf (wsV RX6 112 RX4 yX4_labelIn wsX4_labelIn) := goodIn_app (goodIn_of _ (by decide +kernel)) ggX6_labelOf_X4_labelIn
theorem dX6_labelOf_0 : decode cX6_labelOf 0 = .ok (.aload_n 0, 1) := by decide +kernel
theorem dX6_labelOf_1 : decode cX6_labelOf 1 = .ok (.iload_n 1, 1) := by decide +kernel
theorem dX6_labelOf_2 : decode cX6_labelOf 2 = .ok (.invokevirtual 63, 3) := by decide +kernel
theorem dX6_labelOf_5 : decode cX6_labelOf 5 = .ok (.aload_n 0, 1) := by decide +kernel
theorem dX6_labelOf_6 : decode cX6_labelOf 6 = .ok (.getfield 10, 3) := by decide +kernel
theorem dX6_labelOf_9 : decode cX6_labelOf 9 = .ok (.iload_n 1, 1) := by decide +kernel
theorem dX6_labelOf_10 : decode cX6_labelOf 10 = .ok (.invokevirtual 112, 3) := by decide +kernel
theorem dX6_labelOf_13 : decode cX6_labelOf 13 = .ok (.ireturn, 1) := by decide +kernel
set_option maxRecDepth 200000 in
theorem ggX6_isTurned_X6_requireLine : GoodIn wsX6_isTurned wsX6_requireLine := goodIn_ca (goodIn_r _ [6, 7, 8, 1, 9, 10, 11, 12, 13, 14, 40, 41, 42, 43, 44, 45, 46, 47, 48, 49] rfl (by decide +kernel)) (goodIn_sub (fun _ h => List.mem_cons_of_mem _ (List.mem_append_right _ h)) (by decide +kernel))
set_option maxRecDepth 200000 in
theorem gX6_isTurned_X6_requireLine : GoodIn wsX6_isTurned (wsV RX6 63 RX6 yX6_requireLine wsX6_requireLine) := goodIn_app (goodIn_of _ (by decide +kernel)) ggX6_isTurned_X6_requireLine
set_option maxRecDepth 200000 in
theorem ggX6_isTurned_X4_labelIn : GoodIn wsX6_isTurned wsX4_labelIn := goodIn_r _ [18, 14, 19, 44, 45, 46, 47, 48, 49] rfl (by decide +kernel)
set_option maxRecDepth 200000 in
theorem gX6_isTurned_X4_labelIn : GoodIn wsX6_isTurned (wsV RX6 112 RX4 yX4_labelIn wsX4_labelIn) := goodIn_app (goodIn_of _ (by decide +kernel)) ggX6_isTurned_X4_labelIn
set_option maxRecDepth 200000 in
theorem ggX6_isTurned_X2_goesLeft : GoodIn wsX6_isTurned wsX2_goesLeft := goodIn_r _ [23, 24, 25, 26, 12, 27, 14, 28, 29, 30, 31, 22, 32, 33, 34, 35, 36, 37, 38, 5, 39, 44, 45, 46, 47, 48, 49] rfl (by decide +kernel)
set_option maxRecDepth 200000 in
theorem gX6_isTurned_X2_goesLeft : GoodIn wsX6_isTurned (va_wsS RX6 162 yX2_goesLeft wsX2_goesLeft) := goodIn_app (goodIn_of _ (by decide +kernel)) ggX6_isTurned_X2_goesLeft
theorem dX6_isTurned_0 : decode cX6_isTurned 0 = .ok (.aload_n 0, 1) := by decide +kernel
theorem dX6_isTurned_1 : decode cX6_isTurned 1 = .ok (.iload_n 1, 1) := by decide +kernel
theorem dX6_isTurned_2 : decode cX6_isTurned 2 = .ok (.invokevirtual 63, 3) := by decide +kernel
theorem dX6_isTurned_5 : decode cX6_isTurned 5 = .ok (.aload_n 0, 1) := by decide +kernel
theorem dX6_isTurned_6 : decode cX6_isTurned 6 = .ok (.getfield 10, 3) := by decide +kernel
theorem dX6_isTurned_9 : decode cX6_isTurned 9 = .ok (.iload_n 1, 1) := by decide +kernel
theorem dX6_isTurned_10 : decode cX6_isTurned 10 = .ok (.invokevirtual 112, 3) := by decide +kernel
theorem dX6_isTurned_13 : decode cX6_isTurned 13 = .ok (.istore_n 2, 1) := by decide +kernel
theorem dX6_isTurned_14 : decode cX6_isTurned 14 = .ok (.iload_n 2, 1) := by decide +kernel
theorem dX6_isTurned_15 : decode cX6_isTurned 15 = .ok (.iconst (-1), 1) := by decide +kernel
theorem dX6_isTurned_16 : decode cX6_isTurned 16 = .ok (.if_icmp .eq 19, 3) := by decide +kernel
theorem dX6_isTurned_19 : decode cX6_isTurned 19 = .ok (.aload_n 0, 1) := by decide +kernel
theorem dX6_isTurned_20 : decode cX6_isTurned 20 = .ok (.getfield 10, 3) := by decide +kernel
theorem dX6_isTurned_23 : decode cX6_isTurned 23 = .ok (.iload_n 1, 1) := by decide +kernel
theorem dX6_isTurned_24 : decode cX6_isTurned 24 = .ok (.iload_n 2, 1) := by decide +kernel
theorem dX6_isTurned_25 : decode cX6_isTurned 25 = .ok (.invokestatic 162, 3) := by decide +kernel
theorem dX6_isTurned_28 : decode cX6_isTurned 28 = .ok (.ifCond .eq 7, 3) := by decide +kernel
theorem dX6_isTurned_31 : decode cX6_isTurned 31 = .ok (.iconst 1, 1) := by decide +kernel
theorem dX6_isTurned_32 : decode cX6_isTurned 32 = .ok (.goto 4, 3) := by decide +kernel
theorem dX6_isTurned_35 : decode cX6_isTurned 35 = .ok (.iconst 0, 1) := by decide +kernel
theorem dX6_isTurned_36 : decode cX6_isTurned 36 = .ok (.ireturn, 1) := by decide +kernel
set_option maxRecDepth 200000 in
theorem ggX6_readFrom_X6_requireLine : GoodIn wsX6_readFrom wsX6_requireLine := goodIn_ca (goodIn_r _ [6, 7, 8, 1, 9, 10, 11, 12, 13, 14, 42, 43, 44, 45, 46, 47, 48, 49, 50, 51] rfl (by decide +kernel)) (goodIn_sub (fun _ h => List.mem_cons_of_mem _ (List.mem_append_right _ h)) (by decide +kernel))
set_option maxRecDepth 200000 in
theorem gX6_readFrom_X6_requireLine : GoodIn wsX6_readFrom (wsV RX6 63 RX6 yX6_requireLine wsX6_requireLine) := goodIn_app (goodIn_of _ (by decide +kernel)) ggX6_readFrom_X6_requireLine
set_option maxRecDepth 200000 in
theorem ggX6_readFrom_X4_labelIn : GoodIn wsX6_readFrom wsX4_labelIn := goodIn_r _ [18, 14, 19, 46, 47, 48, 49, 50, 51] rfl (by decide +kernel)
set_option maxRecDepth 200000 in
theorem gX6_readFrom_X4_labelIn : GoodIn wsX6_readFrom (wsV RX6 112 RX4 yX4_labelIn wsX4_labelIn) := goodIn_app (goodIn_of _ (by decide +kernel)) ggX6_readFrom_X4_labelIn
set_option maxRecDepth 200000 in
theorem ggX6_readFrom_X2_goesLeft : GoodIn wsX6_readFrom wsX2_goesLeft := goodIn_r _ [23, 24, 25, 26, 12, 27, 14, 28, 29, 30, 31, 22, 32, 33, 34, 35, 36, 37, 38, 5, 39, 46, 47, 48, 49, 50, 51] rfl (by decide +kernel)
set_option maxRecDepth 200000 in
theorem gX6_readFrom_X2_goesLeft : GoodIn wsX6_readFrom (va_wsS RX6 162 yX2_goesLeft wsX2_goesLeft) := goodIn_app (goodIn_of _ (by decide +kernel)) ggX6_readFrom_X2_goesLeft
set_option maxRecDepth 200000 in
theorem ggX6_readFrom_X2_lastNumber : GoodIn wsX6_readFrom wsX2_lastNumber := goodIn_r _ [32, 33, 34, 35, 12, 36, 14, 37, 46, 47, 48, 49, 50, 51] rfl (by decide +kernel)
set_option maxRecDepth 200000 in
theorem gX6_readFrom_X2_lastNumber : GoodIn wsX6_readFrom (va_wsS RX6 166 yX2_lastNumber wsX2_lastNumber) := goodIn_app (goodIn_of _ (by decide +kernel)) ggX6_readFrom_X2_lastNumber
set_option maxRecDepth 200000 in
theorem ggX6_readFrom_X4_pointAt : GoodIn wsX6_readFrom wsX4_pointAt := goodIn_r _ [27, 14, 28, 29, 46, 47, 48, 49, 50, 51] rfl (by decide +kernel)
set_option maxRecDepth 200000 in
theorem gX6_readFrom_X4_pointAt : GoodIn wsX6_readFrom (wsV RX6 143 RX4 yX4_pointAt wsX4_pointAt) := goodIn_app (goodIn_of _ (by decide +kernel)) ggX6_readFrom_X4_pointAt
theorem dX6_readFrom_0 : decode cX6_readFrom 0 = .ok (.aload_n 0, 1) := by decide +kernel
theorem dX6_readFrom_1 : decode cX6_readFrom 1 = .ok (.iload_n 1, 1) := by decide +kernel
theorem dX6_readFrom_2 : decode cX6_readFrom 2 = .ok (.invokevirtual 63, 3) := by decide +kernel
theorem dX6_readFrom_5 : decode cX6_readFrom 5 = .ok (.aload_n 0, 1) := by decide +kernel
theorem dX6_readFrom_6 : decode cX6_readFrom 6 = .ok (.getfield 10, 3) := by decide +kernel
theorem dX6_readFrom_9 : decode cX6_readFrom 9 = .ok (.iload_n 1, 1) := by decide +kernel
theorem dX6_readFrom_10 : decode cX6_readFrom 10 = .ok (.invokevirtual 112, 3) := by decide +kernel
theorem dX6_readFrom_13 : decode cX6_readFrom 13 = .ok (.istore_n 2, 1) := by decide +kernel
theorem dX6_readFrom_14 : decode cX6_readFrom 14 = .ok (.iload_n 2, 1) := by decide +kernel
theorem dX6_readFrom_15 : decode cX6_readFrom 15 = .ok (.iconst (-1), 1) := by decide +kernel
theorem dX6_readFrom_16 : decode cX6_readFrom 16 = .ok (.if_icmp .ne 5, 3) := by decide +kernel
theorem dX6_readFrom_19 : decode cX6_readFrom 19 = .ok (.iconst (-1), 1) := by decide +kernel
theorem dX6_readFrom_20 : decode cX6_readFrom 20 = .ok (.ireturn, 1) := by decide +kernel
theorem dX6_readFrom_21 : decode cX6_readFrom 21 = .ok (.aload_n 0, 1) := by decide +kernel
theorem dX6_readFrom_22 : decode cX6_readFrom 22 = .ok (.getfield 10, 3) := by decide +kernel
theorem dX6_readFrom_25 : decode cX6_readFrom 25 = .ok (.iload_n 1, 1) := by decide +kernel
theorem dX6_readFrom_26 : decode cX6_readFrom 26 = .ok (.iload_n 2, 1) := by decide +kernel
theorem dX6_readFrom_27 : decode cX6_readFrom 27 = .ok (.invokestatic 162, 3) := by decide +kernel
theorem dX6_readFrom_30 : decode cX6_readFrom 30 = .ok (.ifCond .eq 21, 3) := by decide +kernel
theorem dX6_readFrom_33 : decode cX6_readFrom 33 = .ok (.aload_n 0, 1) := by decide +kernel
theorem dX6_readFrom_34 : decode cX6_readFrom 34 = .ok (.getfield 10, 3) := by decide +kernel
theorem dX6_readFrom_37 : decode cX6_readFrom 37 = .ok (.iload_n 1, 1) := by decide +kernel
theorem dX6_readFrom_38 : decode cX6_readFrom 38 = .ok (.aload_n 0, 1) := by decide +kernel
theorem dX6_readFrom_39 : decode cX6_readFrom 39 = .ok (.getfield 10, 3) := by decide +kernel
theorem dX6_readFrom_42 : decode cX6_readFrom 42 = .ok (.iload_n 1, 1) := by decide +kernel
theorem dX6_readFrom_43 : decode cX6_readFrom 43 = .ok (.iload_n 2, 1) := by decide +kernel
theorem dX6_readFrom_44 : decode cX6_readFrom 44 = .ok (.invokestatic 166, 3) := by decide +kernel
theorem dX6_readFrom_47 : decode cX6_readFrom 47 = .ok (.invokevirtual 143, 3) := by decide +kernel
theorem dX6_readFrom_50 : decode cX6_readFrom 50 = .ok (.ireturn, 1) := by decide +kernel
theorem dX6_readFrom_51 : decode cX6_readFrom 51 = .ok (.aload_n 0, 1) := by decide +kernel
theorem dX6_readFrom_52 : decode cX6_readFrom 52 = .ok (.getfield 10, 3) := by decide +kernel
theorem dX6_readFrom_55 : decode cX6_readFrom 55 = .ok (.iload_n 1, 1) := by decide +kernel
theorem dX6_readFrom_56 : decode cX6_readFrom 56 = .ok (.iload_n 2, 1) := by decide +kernel
theorem dX6_readFrom_57 : decode cX6_readFrom 57 = .ok (.invokevirtual 143, 3) := by decide +kernel
theorem dX6_readFrom_60 : decode cX6_readFrom 60 = .ok (.ireturn, 1) := by decide +kernel
set_option maxRecDepth 200000 in
theorem ggX6_sizeOf_X6_requireLine : GoodIn wsX6_sizeOf wsX6_requireLine := goodIn_ca (goodIn_r _ [6, 7, 8, 1, 9, 10, 11, 12, 13, 14, 20, 21, 22, 23, 24, 25, 26, 27, 28, 29] rfl (by decide +kernel)) (goodIn_sub (fun _ h => List.mem_cons_of_mem _ (List.mem_append_right _ h)) (by decide +kernel))
set_option maxRecDepth 200000 in
theorem gX6_sizeOf_X6_requireLine : GoodIn wsX6_sizeOf (wsV RX6 63 RX6 yX6_requireLine wsX6_requireLine) := goodIn_app (goodIn_of _ (by decide +kernel)) ggX6_sizeOf_X6_requireLine
set_option maxRecDepth 200000 in
theorem ggX6_sizeOf_X4_sizeIn : GoodIn wsX6_sizeOf wsX4_sizeIn := goodIn_r _ [18, 14, 19, 24, 25, 26, 27, 28, 29] rfl (by decide +kernel)
set_option maxRecDepth 200000 in
theorem gX6_sizeOf_X4_sizeIn : GoodIn wsX6_sizeOf (wsV RX6 169 RX4 yX4_sizeIn wsX4_sizeIn) := goodIn_app (goodIn_of _ (by decide +kernel)) ggX6_sizeOf_X4_sizeIn
theorem dX6_sizeOf_0 : decode cX6_sizeOf 0 = .ok (.aload_n 0, 1) := by decide +kernel
theorem dX6_sizeOf_1 : decode cX6_sizeOf 1 = .ok (.iload_n 1, 1) := by decide +kernel
theorem dX6_sizeOf_2 : decode cX6_sizeOf 2 = .ok (.invokevirtual 63, 3) := by decide +kernel
theorem dX6_sizeOf_5 : decode cX6_sizeOf 5 = .ok (.aload_n 0, 1) := by decide +kernel
theorem dX6_sizeOf_6 : decode cX6_sizeOf 6 = .ok (.getfield 10, 3) := by decide +kernel
theorem dX6_sizeOf_9 : decode cX6_sizeOf 9 = .ok (.iload_n 1, 1) := by decide +kernel
theorem dX6_sizeOf_10 : decode cX6_sizeOf 10 = .ok (.invokevirtual 169, 3) := by decide +kernel
theorem dX6_sizeOf_13 : decode cX6_sizeOf 13 = .ok (.ireturn, 1) := by decide +kernel
set_option maxRecDepth 200000 in
theorem ggX6_bendOf_X6_requireNumber : GoodIn wsX6_bendOf wsX6_requireNumber := goodIn_ca (goodIn_r _ [6, 7, 8, 1, 9, 10, 11, 12, 13, 14, 15, 58, 59, 60, 61, 62, 63, 64, 65, 66, 67] rfl (by decide +kernel)) (goodIn_sub (fun _ h => List.mem_cons_of_mem _ (List.mem_append_right _ h)) (by decide +kernel))
set_option maxRecDepth 200000 in
theorem gX6_bendOf_X6_requireNumber : GoodIn wsX6_bendOf (wsV RX6 98 RX6 yX6_requireNumber wsX6_requireNumber) := goodIn_app (goodIn_of _ (by decide +kernel)) ggX6_bendOf_X6_requireNumber
set_option maxRecDepth 200000 in
theorem ggX6_bendOf_X2_bendOfPlace : GoodIn wsX6_bendOf wsX2_bendOfPlace := goodIn_r _ [19, 20, 21, 18, 22, 23, 24, 25, 12, 26, 14, 15, 27, 28, 29, 30, 31, 32, 10, 11, 13, 33, 34, 35, 36, 37, 38, 39, 40, 41, 42, 43, 44, 45, 46, 47, 48, 49, 50, 51, 52, 53, 54, 55, 56, 57, 62, 63, 64, 65, 66, 67] rfl (by decide +kernel)
set_option maxRecDepth 200000 in
theorem gX6_bendOf_X2_bendOfPlace : GoodIn wsX6_bendOf (va_wsS RX6 109 yX2_bendOfPlace wsX2_bendOfPlace) := goodIn_app (goodIn_of _ (by decide +kernel)) ggX6_bendOf_X2_bendOfPlace
theorem dX6_bendOf_0 : decode cX6_bendOf 0 = .ok (.aload_n 0, 1) := by decide +kernel
theorem dX6_bendOf_1 : decode cX6_bendOf 1 = .ok (.iload_n 1, 1) := by decide +kernel
theorem dX6_bendOf_2 : decode cX6_bendOf 2 = .ok (.iload_n 2, 1) := by decide +kernel
theorem dX6_bendOf_3 : decode cX6_bendOf 3 = .ok (.invokevirtual 98, 3) := by decide +kernel
theorem dX6_bendOf_6 : decode cX6_bendOf 6 = .ok (.aload_n 0, 1) := by decide +kernel
theorem dX6_bendOf_7 : decode cX6_bendOf 7 = .ok (.getfield 10, 3) := by decide +kernel
theorem dX6_bendOf_10 : decode cX6_bendOf 10 = .ok (.iload_n 1, 1) := by decide +kernel
theorem dX6_bendOf_11 : decode cX6_bendOf 11 = .ok (.iload_n 2, 1) := by decide +kernel
theorem dX6_bendOf_12 : decode cX6_bendOf 12 = .ok (.invokestatic 109, 3) := by decide +kernel
theorem dX6_bendOf_15 : decode cX6_bendOf 15 = .ok (.ireturn, 1) := by decide +kernel
set_option maxRecDepth 200000 in
theorem ggX6_whyNotLabelled_X6_requireNumber : GoodIn wsX6_whyNotLabelled wsX6_requireNumber := goodIn_ca (goodIn_r _ [6, 7, 8, 1, 9, 10, 11, 12, 13, 14, 15, 105, 106, 107, 108, 109, 110, 111, 112, 113, 114] rfl (by decide +kernel)) (goodIn_sub (fun _ h => List.mem_cons_of_mem _ (List.mem_append_right _ h)) (by decide +kernel))
set_option maxRecDepth 200000 in
theorem gX6_whyNotLabelled_X6_requireNumber : GoodIn wsX6_whyNotLabelled (wsV RX6 98 RX6 yX6_requireNumber wsX6_requireNumber) := goodIn_app (goodIn_of _ (by decide +kernel)) ggX6_whyNotLabelled_X6_requireNumber
set_option maxRecDepth 200000 in
theorem ggX6_whyNotLabelled_X2_reasonAgainst : GoodIn wsX6_whyNotLabelled wsX2_reasonAgainst := goodIn_r _ [19, 20, 21, 18, 22, 23, 24, 25, 26, 27, 28, 12, 29, 14, 15, 30, 31, 32, 33, 34, 35, 10, 11, 13, 36, 37, 38, 39, 40, 41, 42, 43, 44, 45, 46, 47, 48, 49, 50, 51, 52, 53, 54, 55, 56, 57, 58, 59, 60, 61, 62, 63, 64, 65, 66, 67, 68, 69, 70, 71, 72, 5, 73, 74, 75, 76, 77, 78, 79, 80, 81, 82, 83, 84, 85, 86, 87, 88, 89, 90, 91, 92, 93, 94, 95, 96, 97, 98, 99, 100, 101, 102, 103, 104, 109, 110, 111, 112, 113, 114] rfl (by decide +kernel)
set_option maxRecDepth 200000 in
theorem gX6_whyNotLabelled_X2_reasonAgainst : GoodIn wsX6_whyNotLabelled (va_wsS RX6 101 yX2_reasonAgainst wsX2_reasonAgainst) := goodIn_app (goodIn_of _ (by decide +kernel)) ggX6_whyNotLabelled_X2_reasonAgainst
theorem dX6_whyNotLabelled_0 : decode cX6_whyNotLabelled 0 = .ok (.aload_n 0, 1) := by decide +kernel
theorem dX6_whyNotLabelled_1 : decode cX6_whyNotLabelled 1 = .ok (.iload_n 1, 1) := by decide +kernel
theorem dX6_whyNotLabelled_2 : decode cX6_whyNotLabelled 2 = .ok (.iload_n 2, 1) := by decide +kernel
theorem dX6_whyNotLabelled_3 : decode cX6_whyNotLabelled 3 = .ok (.invokevirtual 98, 3) := by decide +kernel
theorem dX6_whyNotLabelled_6 : decode cX6_whyNotLabelled 6 = .ok (.aload_n 0, 1) := by decide +kernel
theorem dX6_whyNotLabelled_7 : decode cX6_whyNotLabelled 7 = .ok (.getfield 10, 3) := by decide +kernel
theorem dX6_whyNotLabelled_10 : decode cX6_whyNotLabelled 10 = .ok (.iload_n 1, 1) := by decide +kernel
theorem dX6_whyNotLabelled_11 : decode cX6_whyNotLabelled 11 = .ok (.iload_n 2, 1) := by decide +kernel
theorem dX6_whyNotLabelled_12 : decode cX6_whyNotLabelled 12 = .ok (.invokestatic 101, 3) := by decide +kernel
theorem dX6_whyNotLabelled_15 : decode cX6_whyNotLabelled 15 = .ok (.ireturn, 1) := by decide +kernel
set_option maxRecDepth 200000 in
theorem ggX6_placesOf_X6_requireLine : GoodIn wsX6_placesOf wsX6_requireLine := goodIn_ca (goodIn_r _ [6, 7, 8, 1, 9, 10, 11, 12, 13, 14, 111, 112, 113, 114, 115, 116, 117, 118, 119, 120] rfl (by decide +kernel)) (goodIn_sub (fun _ h => List.mem_cons_of_mem _ (List.mem_append_right _ h)) (by decide +kernel))
set_option maxRecDepth 200000 in
theorem gX6_placesOf_X6_requireLine : GoodIn wsX6_placesOf (wsV RX6 63 RX6 yX6_requireLine wsX6_requireLine) := goodIn_app (goodIn_of _ (by decide +kernel)) ggX6_placesOf_X6_requireLine
set_option maxRecDepth 200000 in
theorem ggX6_placesOf_X2_countPlaces : GoodIn wsX6_placesOf wsX2_countPlaces := goodIn_r _ [18, 19, 20, 21, 12, 22, 14, 23, 24, 25, 17, 26, 27, 28, 29, 30, 31, 32, 33, 34, 35, 36, 37, 38, 39, 40, 41, 42, 43, 44, 45, 46, 47, 48, 49, 50, 51, 52, 53, 54, 55, 56, 57, 58, 59, 60, 61, 62, 63, 64, 65, 66, 67, 68, 69, 70, 71, 72, 73, 74, 75, 76, 77, 78, 5, 79, 80, 81, 82, 83, 84, 85, 86, 87, 88, 89, 90, 91, 92, 93, 94, 95, 96, 97, 98, 99, 100, 101, 102, 103, 104, 105, 106, 107, 108, 109, 110, 115, 116, 117, 118, 119, 120] rfl (by decide +kernel)
set_option maxRecDepth 200000 in
theorem gX6_placesOf_X2_countPlaces : GoodIn wsX6_placesOf (va_wsS RX6 172 yX2_countPlaces wsX2_countPlaces) := goodIn_app (goodIn_of _ (by decide +kernel)) ggX6_placesOf_X2_countPlaces
theorem dX6_placesOf_0 : decode cX6_placesOf 0 = .ok (.aload_n 0, 1) := by decide +kernel
theorem dX6_placesOf_1 : decode cX6_placesOf 1 = .ok (.iload_n 1, 1) := by decide +kernel
theorem dX6_placesOf_2 : decode cX6_placesOf 2 = .ok (.invokevirtual 63, 3) := by decide +kernel
theorem dX6_placesOf_5 : decode cX6_placesOf 5 = .ok (.aload_n 0, 1) := by decide +kernel
theorem dX6_placesOf_6 : decode cX6_placesOf 6 = .ok (.getfield 10, 3) := by decide +kernel
theorem dX6_placesOf_9 : decode cX6_placesOf 9 = .ok (.iload_n 1, 1) := by decide +kernel
theorem dX6_placesOf_10 : decode cX6_placesOf 10 = .ok (.invokestatic 172, 3) := by decide +kernel
theorem dX6_placesOf_13 : decode cX6_placesOf 13 = .ok (.ireturn, 1) := by decide +kernel
set_option maxRecDepth 200000 in
theorem ggX6_bestPlace_X6_requireLine : GoodIn wsX6_bestPlace wsX6_requireLine := goodIn_ca (goodIn_r _ [6, 7, 8, 1, 9, 10, 11, 12, 13, 14, 108, 109, 110, 111, 112, 113, 114, 115, 116, 117] rfl (by decide +kernel)) (goodIn_sub (fun _ h => List.mem_cons_of_mem _ (List.mem_append_right _ h)) (by decide +kernel))
set_option maxRecDepth 200000 in
theorem gX6_bestPlace_X6_requireLine : GoodIn wsX6_bestPlace (wsV RX6 63 RX6 yX6_requireLine wsX6_requireLine) := goodIn_app (goodIn_of _ (by decide +kernel)) ggX6_bestPlace_X6_requireLine
set_option maxRecDepth 200000 in
theorem ggX6_bestPlace_X2_best : GoodIn wsX6_bestPlace wsX2_best := goodIn_r _ [18, 19, 20, 21, 12, 22, 14, 23, 24, 25, 17, 26, 27, 28, 29, 30, 31, 32, 33, 34, 35, 36, 37, 38, 39, 40, 41, 42, 43, 44, 45, 46, 47, 48, 49, 50, 51, 52, 53, 54, 55, 56, 57, 58, 59, 60, 61, 62, 63, 64, 65, 66, 67, 68, 69, 70, 71, 72, 73, 74, 75, 5, 76, 77, 78, 79, 80, 81, 82, 83, 84, 85, 86, 87, 88, 89, 90, 91, 92, 93, 94, 95, 96, 97, 98, 99, 100, 101, 102, 103, 104, 105, 106, 107, 112, 113, 114, 115, 116, 117] rfl (by decide +kernel)
set_option maxRecDepth 200000 in
theorem gX6_bestPlace_X2_best : GoodIn wsX6_bestPlace (va_wsS RX6 117 yX2_best wsX2_best) := goodIn_app (goodIn_of _ (by decide +kernel)) ggX6_bestPlace_X2_best
theorem dX6_bestPlace_0 : decode cX6_bestPlace 0 = .ok (.aload_n 0, 1) := by decide +kernel
theorem dX6_bestPlace_1 : decode cX6_bestPlace 1 = .ok (.iload_n 1, 1) := by decide +kernel
theorem dX6_bestPlace_2 : decode cX6_bestPlace 2 = .ok (.invokevirtual 63, 3) := by decide +kernel
theorem dX6_bestPlace_5 : decode cX6_bestPlace 5 = .ok (.aload_n 0, 1) := by decide +kernel
theorem dX6_bestPlace_6 : decode cX6_bestPlace 6 = .ok (.getfield 10, 3) := by decide +kernel
theorem dX6_bestPlace_9 : decode cX6_bestPlace 9 = .ok (.iload_n 1, 1) := by decide +kernel
theorem dX6_bestPlace_10 : decode cX6_bestPlace 10 = .ok (.invokestatic 117, 3) := by decide +kernel
theorem dX6_bestPlace_13 : decode cX6_bestPlace 13 = .ok (.ireturn, 1) := by decide +kernel
set_option maxRecDepth 200000 in
theorem ggX6_tooNear_X2_countPairsTooNear : GoodIn wsX6_tooNear wsX2_countPairsTooNear := goodIn_r _ [5, 6, 7, 8, 9, 10, 11, 12, 13, 4, 14, 15, 16, 17, 18, 19, 20, 21, 22, 23, 24, 25, 26, 27, 28, 29, 30, 31, 32, 33, 34, 35, 36, 37, 38, 39, 40, 41, 42, 43, 44, 45, 46, 47, 48, 49, 50, 51, 52, 53, 54, 55, 56, 57, 58, 59, 60, 65, 66, 67, 68, 69, 70] rfl (by decide +kernel)
set_option maxRecDepth 200000 in
theorem gX6_tooNear_X2_countPairsTooNear : GoodIn wsX6_tooNear (va_wsS RX6 175 yX2_countPairsTooNear wsX2_countPairsTooNear) := goodIn_app (goodIn_of _ (by decide +kernel)) ggX6_tooNear_X2_countPairsTooNear
theorem dX6_tooNear_0 : decode cX6_tooNear 0 = .ok (.aload_n 0, 1) := by decide +kernel
theorem dX6_tooNear_1 : decode cX6_tooNear 1 = .ok (.getfield 10, 3) := by decide +kernel
theorem dX6_tooNear_4 : decode cX6_tooNear 4 = .ok (.invokestatic 175, 3) := by decide +kernel
theorem dX6_tooNear_7 : decode cX6_tooNear 7 = .ok (.ireturn, 1) := by decide +kernel
set_option maxRecDepth 200000 in
theorem ggX6_isWithinByRays_X6_requireLine : GoodIn wsX6_isWithinByRays wsX6_requireLine := goodIn_ca (goodIn_r _ [6, 7, 8, 1, 9, 10, 11, 12, 13, 14, 52, 53, 54, 55, 56, 57, 58, 59, 60, 61] rfl (by decide +kernel)) (goodIn_sub (fun _ h => List.mem_cons_of_mem _ (List.mem_append_right _ h)) (by decide +kernel))
set_option maxRecDepth 200000 in
theorem gX6_isWithinByRays_X6_requireLine : GoodIn wsX6_isWithinByRays (wsV RX6 63 RX6 yX6_requireLine wsX6_requireLine) := goodIn_app (goodIn_of _ (by decide +kernel)) ggX6_isWithinByRays_X6_requireLine
set_option maxRecDepth 200000 in
theorem ggX6_isWithinByRays_X6_requirePoint : GoodIn wsX6_isWithinByRays wsX6_requirePoint := goodIn_ca (goodIn_r _ [17, 7, 8, 18, 19, 5, 20] rfl (by decide +kernel)) (goodIn_sub (fun _ h => List.mem_cons_of_mem _ (List.mem_append_right _ h)) (by decide +kernel))
set_option maxRecDepth 200000 in
theorem gX6_isWithinByRays_X6_requirePoint : GoodIn wsX6_isWithinByRays (va_wsS RX6 37 yX6_requirePoint wsX6_requirePoint) := goodIn_app (goodIn_of _ (by decide +kernel)) ggX6_isWithinByRays_X6_requirePoint
set_option maxRecDepth 200000 in
theorem ggX6_isWithinByRays_X5_goesRound : GoodIn wsX6_isWithinByRays wsX5_goesRound := goodIn_r _ [24, 25, 26, 27, 12, 28, 14, 29, 30, 31, 32, 33, 34, 35, 36, 37, 38, 39, 40, 41, 42, 43, 44, 23, 45, 46, 5, 47, 48, 49, 50, 51, 56, 57, 58, 59, 60, 61] rfl (by decide +kernel)
set_option maxRecDepth 200000 in
theorem gX6_isWithinByRays_X5_goesRound : GoodIn wsX6_isWithinByRays (va_wsS RX6 179 yX5_goesRound wsX5_goesRound) := goodIn_app (goodIn_of _ (by decide +kernel)) ggX6_isWithinByRays_X5_goesRound
theorem dX6_isWithinByRays_0 : decode cX6_isWithinByRays 0 = .ok (.aload_n 0, 1) := by decide +kernel
theorem dX6_isWithinByRays_1 : decode cX6_isWithinByRays 1 = .ok (.iload_n 1, 1) := by decide +kernel
theorem dX6_isWithinByRays_2 : decode cX6_isWithinByRays 2 = .ok (.invokevirtual 63, 3) := by decide +kernel
theorem dX6_isWithinByRays_5 : decode cX6_isWithinByRays 5 = .ok (.iload_n 2, 1) := by decide +kernel
theorem dX6_isWithinByRays_6 : decode cX6_isWithinByRays 6 = .ok (.invokestatic 37, 3) := by decide +kernel
theorem dX6_isWithinByRays_9 : decode cX6_isWithinByRays 9 = .ok (.aload_n 0, 1) := by decide +kernel
theorem dX6_isWithinByRays_10 : decode cX6_isWithinByRays 10 = .ok (.getfield 10, 3) := by decide +kernel
theorem dX6_isWithinByRays_13 : decode cX6_isWithinByRays 13 = .ok (.iload_n 1, 1) := by decide +kernel
theorem dX6_isWithinByRays_14 : decode cX6_isWithinByRays 14 = .ok (.iload_n 2, 1) := by decide +kernel
theorem dX6_isWithinByRays_15 : decode cX6_isWithinByRays 15 = .ok (.invokestatic 179, 3) := by decide +kernel
theorem dX6_isWithinByRays_18 : decode cX6_isWithinByRays 18 = .ok (.ireturn, 1) := by decide +kernel
set_option maxRecDepth 200000 in
theorem ggX6_isWithinBySpreading_X6_requireLine : GoodIn wsX6_isWithinBySpreading wsX6_requireLine := goodIn_ca (goodIn_r _ [7, 8, 9, 1, 10, 11, 12, 13, 14, 15, 76, 77, 78, 79, 80, 81, 82, 83, 84, 85] rfl (by decide +kernel)) (goodIn_sub (fun _ h => List.mem_cons_of_mem _ (List.mem_append_right _ h)) (by decide +kernel))
set_option maxRecDepth 200000 in
theorem gX6_isWithinBySpreading_X6_requireLine : GoodIn wsX6_isWithinBySpreading (wsV RX6 63 RX6 yX6_requireLine wsX6_requireLine) := goodIn_app (goodIn_of _ (by decide +kernel)) ggX6_isWithinBySpreading_X6_requireLine
set_option maxRecDepth 200000 in
theorem ggX6_isWithinBySpreading_X6_requirePoint : GoodIn wsX6_isWithinBySpreading wsX6_requirePoint := goodIn_ca (goodIn_r _ [18, 8, 9, 19, 20, 6, 21] rfl (by decide +kernel)) (goodIn_sub (fun _ h => List.mem_cons_of_mem _ (List.mem_append_right _ h)) (by decide +kernel))
set_option maxRecDepth 200000 in
theorem gX6_isWithinBySpreading_X6_requirePoint : GoodIn wsX6_isWithinBySpreading (va_wsS RX6 37 yX6_requirePoint wsX6_requirePoint) := goodIn_app (goodIn_of _ (by decide +kernel)) ggX6_isWithinBySpreading_X6_requirePoint
set_option maxRecDepth 200000 in
theorem ggX6_isWithinBySpreading_X4_isRing : GoodIn wsX6_isWithinBySpreading wsX4_isRing := goodIn_r _ [25, 15, 26, 27, 80, 81, 82, 83, 84, 85] rfl (by decide +kernel)
set_option maxRecDepth 200000 in
theorem gX6_isWithinBySpreading_X4_isRing : GoodIn wsX6_isWithinBySpreading (wsV RX6 78 RX4 yX4_isRing wsX4_isRing) := goodIn_app (goodIn_of _ (by decide +kernel)) ggX6_isWithinBySpreading_X4_isRing
set_option maxRecDepth 200000 in
theorem ggX6_isWithinBySpreading_X0_drawLine : GoodIn wsX6_isWithinBySpreading wsX0_drawLine := goodIn_r _ [32, 33, 34, 35, 36, 13, 37, 15, 26, 38, 39, 40, 41, 27, 42, 43, 31, 44, 45, 6, 46, 47, 48, 49, 50, 51, 52, 53, 54, 55, 56, 57, 58, 59, 60, 61, 86, 87, 88, 80, 81, 82, 83, 84, 85] rfl (by decide +kernel)
set_option maxRecDepth 200000 in
theorem gX6_isWithinBySpreading_X0_drawLine : GoodIn wsX6_isWithinBySpreading (wsV RX6 184 RX0 yX0_drawLine wsX0_drawLine) := goodIn_app (goodIn_of _ (by decide +kernel)) ggX6_isWithinBySpreading_X0_drawLine
set_option maxRecDepth 200000 in
theorem ggX6_isWithinBySpreading_X0_spread : GoodIn wsX6_isWithinBySpreading wsX0_spread := goodIn_r _ [65, 66, 67, 68, 69, 70, 31, 71, 33, 59, 60, 61, 86, 87, 88] rfl (by decide +kernel)
set_option maxRecDepth 200000 in
theorem gX6_isWithinBySpreading_X0_spread : GoodIn wsX6_isWithinBySpreading (wsV RX6 188 RX0 yX0_spread wsX0_spread) := goodIn_app (goodIn_of _ (by decide +kernel)) ggX6_isWithinBySpreading_X0_spread
set_option maxRecDepth 200000 in
theorem ggX6_isWithinBySpreading_X0_isLeftOut : GoodIn wsX6_isWithinBySpreading wsX0_isLeftOut := goodIn_r _ [75, 33, 42, 43, 31, 44, 45, 6, 46, 47, 48, 59, 60, 61, 86, 87, 88] rfl (by decide +kernel)
set_option maxRecDepth 200000 in
theorem gX6_isWithinBySpreading_X0_isLeftOut : GoodIn wsX6_isWithinBySpreading (wsV RX6 191 RX0 yX0_isLeftOut wsX0_isLeftOut) := goodIn_app (goodIn_of _ (by decide +kernel)) ggX6_isWithinBySpreading_X0_isLeftOut
theorem dX6_isWithinBySpreading_0 : decode cX6_isWithinBySpreading 0 = .ok (.aload_n 0, 1) := by decide +kernel
theorem dX6_isWithinBySpreading_1 : decode cX6_isWithinBySpreading 1 = .ok (.iload_n 1, 1) := by decide +kernel
theorem dX6_isWithinBySpreading_2 : decode cX6_isWithinBySpreading 2 = .ok (.invokevirtual 63, 3) := by decide +kernel
theorem dX6_isWithinBySpreading_5 : decode cX6_isWithinBySpreading 5 = .ok (.iload_n 2, 1) := by decide +kernel
theorem dX6_isWithinBySpreading_6 : decode cX6_isWithinBySpreading 6 = .ok (.invokestatic 37, 3) := by decide +kernel
theorem dX6_isWithinBySpreading_9 : decode cX6_isWithinBySpreading 9 = .ok (.aload_n 0, 1) := by decide +kernel
theorem dX6_isWithinBySpreading_10 : decode cX6_isWithinBySpreading 10 = .ok (.getfield 10, 3) := by decide +kernel
theorem dX6_isWithinBySpreading_13 : decode cX6_isWithinBySpreading 13 = .ok (.iload_n 1, 1) := by decide +kernel
theorem dX6_isWithinBySpreading_14 : decode cX6_isWithinBySpreading 14 = .ok (.invokevirtual 78, 3) := by decide +kernel
theorem dX6_isWithinBySpreading_17 : decode cX6_isWithinBySpreading 17 = .ok (.ifCond .ne 5, 3) := by decide +kernel
theorem dX6_isWithinBySpreading_20 : decode cX6_isWithinBySpreading 20 = .ok (.iconst 0, 1) := by decide +kernel
theorem dX6_isWithinBySpreading_21 : decode cX6_isWithinBySpreading 21 = .ok (.ireturn, 1) := by decide +kernel
theorem dX6_isWithinBySpreading_22 : decode cX6_isWithinBySpreading 22 = .ok (.aload_n 0, 1) := by decide +kernel
theorem dX6_isWithinBySpreading_23 : decode cX6_isWithinBySpreading 23 = .ok (.getfield 33, 3) := by decide +kernel
theorem dX6_isWithinBySpreading_26 : decode cX6_isWithinBySpreading 26 = .ok (.aload_n 0, 1) := by decide +kernel
theorem dX6_isWithinBySpreading_27 : decode cX6_isWithinBySpreading 27 = .ok (.getfield 10, 3) := by decide +kernel
theorem dX6_isWithinBySpreading_30 : decode cX6_isWithinBySpreading 30 = .ok (.iload_n 1, 1) := by decide +kernel
theorem dX6_isWithinBySpreading_31 : decode cX6_isWithinBySpreading 31 = .ok (.invokevirtual 184, 3) := by decide +kernel
theorem dX6_isWithinBySpreading_34 : decode cX6_isWithinBySpreading 34 = .ok (.aload_n 0, 1) := by decide +kernel
theorem dX6_isWithinBySpreading_35 : decode cX6_isWithinBySpreading 35 = .ok (.getfield 33, 3) := by decide +kernel
theorem dX6_isWithinBySpreading_38 : decode cX6_isWithinBySpreading 38 = .ok (.invokevirtual 188, 3) := by decide +kernel
theorem dX6_isWithinBySpreading_41 : decode cX6_isWithinBySpreading 41 = .ok (.aload_n 0, 1) := by decide +kernel
theorem dX6_isWithinBySpreading_42 : decode cX6_isWithinBySpreading 42 = .ok (.getfield 33, 3) := by decide +kernel
theorem dX6_isWithinBySpreading_45 : decode cX6_isWithinBySpreading 45 = .ok (.iload_n 2, 1) := by decide +kernel
theorem dX6_isWithinBySpreading_46 : decode cX6_isWithinBySpreading 46 = .ok (.invokevirtual 191, 3) := by decide +kernel
theorem dX6_isWithinBySpreading_49 : decode cX6_isWithinBySpreading 49 = .ok (.ireturn, 1) := by decide +kernel
set_option maxRecDepth 200000 in
theorem ggX6_pointsWithin_X6_requireLine : GoodIn wsX6_pointsWithin wsX6_requireLine := goodIn_ca (goodIn_r _ [6, 7, 8, 1, 9, 10, 11, 12, 13, 14, 46, 47, 48, 49, 50, 51, 52, 53, 54, 55] rfl (by decide +kernel)) (goodIn_sub (fun _ h => List.mem_cons_of_mem _ (List.mem_append_right _ h)) (by decide +kernel))
set_option maxRecDepth 200000 in
theorem gX6_pointsWithin_X6_requireLine : GoodIn wsX6_pointsWithin (wsV RX6 63 RX6 yX6_requireLine wsX6_requireLine) := goodIn_app (goodIn_of _ (by decide +kernel)) ggX6_pointsWithin_X6_requireLine
set_option maxRecDepth 200000 in
theorem ggX6_pointsWithin_X5_goesRound : GoodIn wsX6_pointsWithin wsX5_goesRound := goodIn_r _ [18, 19, 20, 21, 12, 22, 14, 23, 24, 25, 26, 27, 28, 29, 30, 31, 32, 33, 34, 35, 36, 37, 38, 17, 39, 40, 5, 41, 42, 43, 44, 45, 50, 51, 52, 53, 54, 55] rfl (by decide +kernel)
set_option maxRecDepth 200000 in
theorem gX6_pointsWithin_X5_goesRound : GoodIn wsX6_pointsWithin (va_wsS RX6 179 yX5_goesRound wsX5_goesRound) := goodIn_app (goodIn_of _ (by decide +kernel)) ggX6_pointsWithin_X5_goesRound
theorem dX6_pointsWithin_0 : decode cX6_pointsWithin 0 = .ok (.aload_n 0, 1) := by decide +kernel
theorem dX6_pointsWithin_1 : decode cX6_pointsWithin 1 = .ok (.iload_n 1, 1) := by decide +kernel
theorem dX6_pointsWithin_2 : decode cX6_pointsWithin 2 = .ok (.invokevirtual 63, 3) := by decide +kernel
theorem dX6_pointsWithin_5 : decode cX6_pointsWithin 5 = .ok (.iconst 0, 1) := by decide +kernel
theorem dX6_pointsWithin_6 : decode cX6_pointsWithin 6 = .ok (.istore_n 2, 1) := by decide +kernel
theorem dX6_pointsWithin_7 : decode cX6_pointsWithin 7 = .ok (.iconst 0, 1) := by decide +kernel
theorem dX6_pointsWithin_8 : decode cX6_pointsWithin 8 = .ok (.istore_n 3, 1) := by decide +kernel
theorem dX6_pointsWithin_9 : decode cX6_pointsWithin 9 = .ok (.iload_n 3, 1) := by decide +kernel
theorem dX6_pointsWithin_10 : decode cX6_pointsWithin 10 = .ok (.sipush 384, 3) := by decide +kernel
theorem dX6_pointsWithin_13 : decode cX6_pointsWithin 13 = .ok (.if_icmp .ge 24, 3) := by decide +kernel
theorem dX6_pointsWithin_16 : decode cX6_pointsWithin 16 = .ok (.aload_n 0, 1) := by decide +kernel
theorem dX6_pointsWithin_17 : decode cX6_pointsWithin 17 = .ok (.getfield 10, 3) := by decide +kernel
theorem dX6_pointsWithin_20 : decode cX6_pointsWithin 20 = .ok (.iload_n 1, 1) := by decide +kernel
theorem dX6_pointsWithin_21 : decode cX6_pointsWithin 21 = .ok (.iload_n 3, 1) := by decide +kernel
theorem dX6_pointsWithin_22 : decode cX6_pointsWithin 22 = .ok (.invokestatic 179, 3) := by decide +kernel
theorem dX6_pointsWithin_25 : decode cX6_pointsWithin 25 = .ok (.ifCond .eq 6, 3) := by decide +kernel
theorem dX6_pointsWithin_28 : decode cX6_pointsWithin 28 = .ok (.iinc 2 1, 3) := by decide +kernel
theorem dX6_pointsWithin_31 : decode cX6_pointsWithin 31 = .ok (.iinc 3 1, 3) := by decide +kernel
theorem dX6_pointsWithin_34 : decode cX6_pointsWithin 34 = .ok (.goto (-25), 3) := by decide +kernel
theorem dX6_pointsWithin_37 : decode cX6_pointsWithin 37 = .ok (.iload_n 2, 1) := by decide +kernel
theorem dX6_pointsWithin_38 : decode cX6_pointsWithin 38 = .ok (.ireturn, 1) := by decide +kernel
set_option maxRecDepth 200000 in
theorem ggX6_lineRound_X6_requireLine : GoodIn wsX6_lineRound wsX6_requireLine := goodIn_ca (goodIn_r _ [6, 7, 8, 1, 9, 10, 11, 12, 13, 14, 53, 54, 55, 56, 57, 58, 59, 60, 61, 62] rfl (by decide +kernel)) (goodIn_sub (fun _ h => List.mem_cons_of_mem _ (List.mem_append_right _ h)) (by decide +kernel))
set_option maxRecDepth 200000 in
theorem gX6_lineRound_X6_requireLine : GoodIn wsX6_lineRound (wsV RX6 63 RX6 yX6_requireLine wsX6_requireLine) := goodIn_app (goodIn_of _ (by decide +kernel)) ggX6_lineRound_X6_requireLine
set_option maxRecDepth 200000 in
theorem ggX6_lineRound_X5_innermostRound : GoodIn wsX6_lineRound wsX5_innermostRound := goodIn_r _ [18, 19, 20, 21, 12, 22, 14, 23, 24, 25, 26, 27, 28, 29, 30, 17, 31, 32, 33, 34, 35, 36, 37, 38, 39, 40, 41, 42, 43, 44, 45, 46, 47, 48, 5, 49, 50, 51, 52, 57, 58, 59, 60, 61, 62] rfl (by decide +kernel)
set_option maxRecDepth 200000 in
theorem gX6_lineRound_X5_innermostRound : GoodIn wsX6_lineRound (va_wsS RX6 194 yX5_innermostRound wsX5_innermostRound) := goodIn_app (goodIn_of _ (by decide +kernel)) ggX6_lineRound_X5_innermostRound
theorem dX6_lineRound_0 : decode cX6_lineRound 0 = .ok (.aload_n 0, 1) := by decide +kernel
theorem dX6_lineRound_1 : decode cX6_lineRound 1 = .ok (.iload_n 1, 1) := by decide +kernel
theorem dX6_lineRound_2 : decode cX6_lineRound 2 = .ok (.invokevirtual 63, 3) := by decide +kernel
theorem dX6_lineRound_5 : decode cX6_lineRound 5 = .ok (.aload_n 0, 1) := by decide +kernel
theorem dX6_lineRound_6 : decode cX6_lineRound 6 = .ok (.getfield 10, 3) := by decide +kernel
theorem dX6_lineRound_9 : decode cX6_lineRound 9 = .ok (.iload_n 1, 1) := by decide +kernel
theorem dX6_lineRound_10 : decode cX6_lineRound 10 = .ok (.invokestatic 194, 3) := by decide +kernel
theorem dX6_lineRound_13 : decode cX6_lineRound 13 = .ok (.ireturn, 1) := by decide +kernel
set_option maxRecDepth 200000 in
theorem ggX6_isSteady_X6_requireLine : GoodIn wsX6_isSteady wsX6_requireLine := goodIn_ca (goodIn_r _ [10, 11, 12, 1, 13, 14, 15, 16, 17, 18, 62, 63, 64, 65, 66, 67, 68, 69, 70, 71] rfl (by decide +kernel)) (goodIn_sub (fun _ h => List.mem_cons_of_mem _ (List.mem_append_right _ h)) (by decide +kernel))
set_option maxRecDepth 200000 in
theorem gX6_isSteady_X6_requireLine : GoodIn wsX6_isSteady (wsV RX6 63 RX6 yX6_requireLine wsX6_requireLine) := goodIn_app (goodIn_of _ (by decide +kernel)) ggX6_isSteady_X6_requireLine
set_option maxRecDepth 200000 in
theorem ggX6_isSteady_X5_innermostRound : GoodIn wsX6_isSteady wsX5_innermostRound := goodIn_r _ [22, 23, 24, 25, 16, 26, 18, 27, 28, 29, 30, 31, 32, 33, 34, 21, 35, 36, 37, 38, 39, 40, 41, 42, 43, 44, 45, 46, 47, 48, 49, 50, 51, 52, 9, 53, 54, 55, 56, 66, 67, 68, 69, 70, 71] rfl (by decide +kernel)
set_option maxRecDepth 200000 in
theorem gX6_isSteady_X5_innermostRound : GoodIn wsX6_isSteady (va_wsS RX6 194 yX5_innermostRound wsX5_innermostRound) := goodIn_app (goodIn_of _ (by decide +kernel)) ggX6_isSteady_X5_innermostRound
set_option maxRecDepth 200000 in
theorem ggX6_isSteady_X4_levelIn : GoodIn wsX6_isSteady wsX4_levelIn := goodIn_r _ [60, 18, 61, 66, 67, 68, 69, 70, 71] rfl (by decide +kernel)
set_option maxRecDepth 200000 in
theorem gX6_isSteady_X4_levelIn : GoodIn wsX6_isSteady (wsV RX6 88 RX4 yX4_levelIn wsX4_levelIn) := goodIn_app (goodIn_of _ (by decide +kernel)) ggX6_isSteady_X4_levelIn
theorem dX6_isSteady_0 : decode cX6_isSteady 0 = .ok (.aload_n 0, 1) := by decide +kernel
theorem dX6_isSteady_1 : decode cX6_isSteady 1 = .ok (.iload_n 1, 1) := by decide +kernel
theorem dX6_isSteady_2 : decode cX6_isSteady 2 = .ok (.invokevirtual 63, 3) := by decide +kernel
theorem dX6_isSteady_5 : decode cX6_isSteady 5 = .ok (.aload_n 0, 1) := by decide +kernel
theorem dX6_isSteady_6 : decode cX6_isSteady 6 = .ok (.getfield 10, 3) := by decide +kernel
theorem dX6_isSteady_9 : decode cX6_isSteady 9 = .ok (.iload_n 1, 1) := by decide +kernel
theorem dX6_isSteady_10 : decode cX6_isSteady 10 = .ok (.invokestatic 194, 3) := by decide +kernel
theorem dX6_isSteady_13 : decode cX6_isSteady 13 = .ok (.istore_n 2, 1) := by decide +kernel
theorem dX6_isSteady_14 : decode cX6_isSteady 14 = .ok (.iload_n 2, 1) := by decide +kernel
theorem dX6_isSteady_15 : decode cX6_isSteady 15 = .ok (.iconst (-1), 1) := by decide +kernel
theorem dX6_isSteady_16 : decode cX6_isSteady 16 = .ok (.if_icmp .ne 5, 3) := by decide +kernel
theorem dX6_isSteady_19 : decode cX6_isSteady 19 = .ok (.iconst 1, 1) := by decide +kernel
theorem dX6_isSteady_20 : decode cX6_isSteady 20 = .ok (.ireturn, 1) := by decide +kernel
theorem dX6_isSteady_21 : decode cX6_isSteady 21 = .ok (.aload_n 0, 1) := by decide +kernel
theorem dX6_isSteady_22 : decode cX6_isSteady 22 = .ok (.getfield 10, 3) := by decide +kernel
theorem dX6_isSteady_25 : decode cX6_isSteady 25 = .ok (.iload_n 1, 1) := by decide +kernel
theorem dX6_isSteady_26 : decode cX6_isSteady 26 = .ok (.invokevirtual 88, 3) := by decide +kernel
theorem dX6_isSteady_29 : decode cX6_isSteady 29 = .ok (.aload_n 0, 1) := by decide +kernel
theorem dX6_isSteady_30 : decode cX6_isSteady 30 = .ok (.getfield 10, 3) := by decide +kernel
theorem dX6_isSteady_33 : decode cX6_isSteady 33 = .ok (.iload_n 2, 1) := by decide +kernel
theorem dX6_isSteady_34 : decode cX6_isSteady 34 = .ok (.invokevirtual 88, 3) := by decide +kernel
theorem dX6_isSteady_37 : decode cX6_isSteady 37 = .ok (.isub, 1) := by decide +kernel
theorem dX6_isSteady_38 : decode cX6_isSteady 38 = .ok (.invokestatic 197, 3) := by decide +kernel
theorem dX6_isSteady_41 : decode cX6_isSteady 41 = .ok (.iconst 5, 1) := by decide +kernel
theorem dX6_isSteady_42 : decode cX6_isSteady 42 = .ok (.if_icmp .ne 7, 3) := by decide +kernel
theorem dX6_isSteady_45 : decode cX6_isSteady 45 = .ok (.iconst 1, 1) := by decide +kernel
theorem dX6_isSteady_46 : decode cX6_isSteady 46 = .ok (.goto 4, 3) := by decide +kernel
theorem dX6_isSteady_49 : decode cX6_isSteady 49 = .ok (.iconst 0, 1) := by decide +kernel
theorem dX6_isSteady_50 : decode cX6_isSteady 50 = .ok (.ireturn, 1) := by decide +kernel
set_option maxRecDepth 200000 in
theorem ggX6_lineByLevel_X4_hasLine : GoodIn wsX6_lineByLevel wsX4_hasLine := goodIn_r _ [8, 9, 27, 28, 29, 30, 31, 32] rfl (by decide +kernel)
set_option maxRecDepth 200000 in
theorem gX6_lineByLevel_X4_hasLine : GoodIn wsX6_lineByLevel (wsV RX6 202 RX4 yX4_hasLine wsX4_hasLine) := goodIn_app (goodIn_of _ (by decide +kernel)) ggX6_lineByLevel_X4_hasLine
set_option maxRecDepth 200000 in
theorem ggX6_lineByLevel_X4_lineOfRank : GoodIn wsX6_lineByLevel wsX4_lineOfRank := goodIn_r _ [13, 9, 14, 15, 16, 7, 17, 18, 19, 20, 21, 22, 27, 28, 29, 30, 31, 32] rfl (by decide +kernel)
set_option maxRecDepth 200000 in
theorem gX6_lineByLevel_X4_lineOfRank : GoodIn wsX6_lineByLevel (wsV RX6 210 RX4 yX4_lineOfRank wsX4_lineOfRank) := goodIn_app (goodIn_of _ (by decide +kernel)) ggX6_lineByLevel_X4_lineOfRank
theorem dX6_lineByLevel_0 : decode cX6_lineByLevel 0 = .ok (.aload_n 0, 1) := by decide +kernel
theorem dX6_lineByLevel_1 : decode cX6_lineByLevel 1 = .ok (.getfield 10, 3) := by decide +kernel
theorem dX6_lineByLevel_4 : decode cX6_lineByLevel 4 = .ok (.iload_n 1, 1) := by decide +kernel
theorem dX6_lineByLevel_5 : decode cX6_lineByLevel 5 = .ok (.invokevirtual 202, 3) := by decide +kernel
theorem dX6_lineByLevel_8 : decode cX6_lineByLevel 8 = .ok (.ifCond .ne 13, 3) := by decide +kernel
theorem dX6_lineByLevel_11 : decode cX6_lineByLevel 11 = .ok (.new 205, 3) := by decide +kernel
theorem dX6_lineByLevel_14 : decode cX6_lineByLevel 14 = .ok (.dup, 1) := by decide +kernel
theorem dX6_lineByLevel_15 : decode cX6_lineByLevel 15 = .ok (.ldc 207, 2) := by decide +kernel
theorem dX6_lineByLevel_17 : decode cX6_lineByLevel 17 = .ok (.invokespecial 209, 3) := by decide +kernel
theorem dX6_lineByLevel_20 : decode cX6_lineByLevel 20 = .ok (.athrow, 1) := by decide +kernel
theorem dX6_lineByLevel_21 : decode cX6_lineByLevel 21 = .ok (.aload_n 0, 1) := by decide +kernel
theorem dX6_lineByLevel_22 : decode cX6_lineByLevel 22 = .ok (.getfield 10, 3) := by decide +kernel
theorem dX6_lineByLevel_25 : decode cX6_lineByLevel 25 = .ok (.iload_n 1, 1) := by decide +kernel
theorem dX6_lineByLevel_26 : decode cX6_lineByLevel 26 = .ok (.invokevirtual 210, 3) := by decide +kernel
theorem dX6_lineByLevel_29 : decode cX6_lineByLevel 29 = .ok (.ireturn, 1) := by decide +kernel
set_option maxRecDepth 200000 in
theorem ggX6_append_X3_isFull : GoodIn wsX6_append wsX3_isFull := goodIn_r _ [10, 11, 26, 27, 28, 29, 30, 31, 32, 33] rfl (by decide +kernel)
set_option maxRecDepth 200000 in
theorem gX6_append_X3_isFull : GoodIn wsX6_append (wsV RX6 215 RX3 yX3_isFull wsX3_isFull) := goodIn_app (goodIn_of _ (by decide +kernel)) ggX6_append_X3_isFull
set_option maxRecDepth 200000 in
theorem ggX6_append_X3_add : GoodIn wsX6_append wsX3_add := goodIn_r _ [15, 16, 11, 17, 7, 8, 9, 10, 26, 27, 28, 29, 30, 31, 32, 33] rfl (by decide +kernel)
set_option maxRecDepth 200000 in
theorem gX6_append_X3_add : GoodIn wsX6_append (wsV RX6 221 RX3 yX3_add wsX3_add) := goodIn_app (goodIn_of _ (by decide +kernel)) ggX6_append_X3_add
set_option maxRecDepth 200000 in
theorem ggX6_append_X3_size : GoodIn wsX6_append wsX3_size := goodIn_r _ [21, 11, 26, 27, 28, 29, 30, 31, 32, 33] rfl (by decide +kernel)
set_option maxRecDepth 200000 in
theorem gX6_append_X3_size : GoodIn wsX6_append (wsV RX6 224 RX3 yX3_size wsX3_size) := goodIn_app (goodIn_of _ (by decide +kernel)) ggX6_append_X3_size
theorem dX6_append_0 : decode cX6_append 0 = .ok (.iload_n 1, 1) := by decide +kernel
theorem dX6_append_1 : decode cX6_append 1 = .ok (.bipush 32, 2) := by decide +kernel
theorem dX6_append_3 : decode cX6_append 3 = .ok (.if_icmp .lt 9, 3) := by decide +kernel
theorem dX6_append_6 : decode cX6_append 6 = .ok (.iload_n 1, 1) := by decide +kernel
theorem dX6_append_7 : decode cX6_append 7 = .ok (.bipush 126, 2) := by decide +kernel
theorem dX6_append_9 : decode cX6_append 9 = .ok (.if_icmp .le 13, 3) := by decide +kernel
theorem dX6_append_12 : decode cX6_append 12 = .ok (.new 129, 3) := by decide +kernel
theorem dX6_append_15 : decode cX6_append 15 = .ok (.dup, 1) := by decide +kernel
theorem dX6_append_16 : decode cX6_append 16 = .ok (.ldc 213, 2) := by decide +kernel
theorem dX6_append_18 : decode cX6_append 18 = .ok (.invokespecial 133, 3) := by decide +kernel
theorem dX6_append_21 : decode cX6_append 21 = .ok (.athrow, 1) := by decide +kernel
theorem dX6_append_22 : decode cX6_append 22 = .ok (.aload_n 0, 1) := by decide +kernel
theorem dX6_append_23 : decode cX6_append 23 = .ok (.getfield 26, 3) := by decide +kernel
theorem dX6_append_26 : decode cX6_append 26 = .ok (.invokevirtual 215, 3) := by decide +kernel
theorem dX6_append_29 : decode cX6_append 29 = .ok (.ifCond .eq 13, 3) := by decide +kernel
theorem dX6_append_32 : decode cX6_append 32 = .ok (.new 48, 3) := by decide +kernel
theorem dX6_append_35 : decode cX6_append 35 = .ok (.dup, 1) := by decide +kernel
theorem dX6_append_36 : decode cX6_append 36 = .ok (.ldc 219, 2) := by decide +kernel
theorem dX6_append_38 : decode cX6_append 38 = .ok (.invokespecial 52, 3) := by decide +kernel
theorem dX6_append_41 : decode cX6_append 41 = .ok (.athrow, 1) := by decide +kernel
theorem dX6_append_42 : decode cX6_append 42 = .ok (.aload_n 0, 1) := by decide +kernel
theorem dX6_append_43 : decode cX6_append 43 = .ok (.getfield 26, 3) := by decide +kernel
theorem dX6_append_46 : decode cX6_append 46 = .ok (.iload_n 1, 1) := by decide +kernel
theorem dX6_append_47 : decode cX6_append 47 = .ok (.invokevirtual 221, 3) := by decide +kernel
theorem dX6_append_50 : decode cX6_append 50 = .ok (.aload_n 0, 1) := by decide +kernel
theorem dX6_append_51 : decode cX6_append 51 = .ok (.getfield 26, 3) := by decide +kernel
theorem dX6_append_54 : decode cX6_append 54 = .ok (.invokevirtual 224, 3) := by decide +kernel
theorem dX6_append_57 : decode cX6_append 57 = .ok (.ireturn, 1) := by decide +kernel
set_option maxRecDepth 200000 in
theorem ggX6_clearText_X3_size : GoodIn wsX6_clearText wsX3_size := goodIn_r _ [6, 7, 16, 17, 18, 19, 20, 21, 22, 23] rfl (by decide +kernel)
set_option maxRecDepth 200000 in
theorem gX6_clearText_X3_size : GoodIn wsX6_clearText (wsV RX6 224 RX3 yX3_size wsX3_size) := goodIn_app (goodIn_of _ (by decide +kernel)) ggX6_clearText_X3_size
set_option maxRecDepth 200000 in
theorem ggX6_clearText_X3_empty : GoodIn wsX6_clearText wsX3_empty := goodIn_r _ [11, 7, 16, 17, 18, 19, 20, 21, 22, 23] rfl (by decide +kernel)
set_option maxRecDepth 200000 in
theorem gX6_clearText_X3_empty : GoodIn wsX6_clearText (wsV RX6 227 RX3 yX3_empty wsX3_empty) := goodIn_app (goodIn_of _ (by decide +kernel)) ggX6_clearText_X3_empty
theorem dX6_clearText_0 : decode cX6_clearText 0 = .ok (.aload_n 0, 1) := by decide +kernel
theorem dX6_clearText_1 : decode cX6_clearText 1 = .ok (.getfield 26, 3) := by decide +kernel
theorem dX6_clearText_4 : decode cX6_clearText 4 = .ok (.invokevirtual 224, 3) := by decide +kernel
theorem dX6_clearText_7 : decode cX6_clearText 7 = .ok (.istore_n 1, 1) := by decide +kernel
theorem dX6_clearText_8 : decode cX6_clearText 8 = .ok (.aload_n 0, 1) := by decide +kernel
theorem dX6_clearText_9 : decode cX6_clearText 9 = .ok (.getfield 26, 3) := by decide +kernel
theorem dX6_clearText_12 : decode cX6_clearText 12 = .ok (.invokevirtual 227, 3) := by decide +kernel
theorem dX6_clearText_15 : decode cX6_clearText 15 = .ok (.iload_n 1, 1) := by decide +kernel
theorem dX6_clearText_16 : decode cX6_clearText 16 = .ok (.ireturn, 1) := by decide +kernel
set_option maxRecDepth 200000 in
theorem ggX6_errorPosition_X3_firstError : GoodIn wsX6_errorPosition wsX3_firstError := goodIn_r _ [6, 7, 8, 9, 10, 5, 11, 12, 13, 14, 15, 16, 17, 18, 19, 20, 21, 22, 23, 24, 25, 26, 27, 28, 29, 30, 31, 32, 33, 34, 35, 36, 37, 38, 39, 40, 41, 42, 43, 44, 45, 46, 47, 48, 49, 50, 51, 52, 53, 54, 55, 56, 57, 62, 63, 64, 65, 66, 67, 68, 69] rfl (by decide +kernel)
set_option maxRecDepth 200000 in
theorem gX6_errorPosition_X3_firstError : GoodIn wsX6_errorPosition (wsV RX6 230 RX3 yX3_firstError wsX3_firstError) := goodIn_app (goodIn_of _ (by decide +kernel)) ggX6_errorPosition_X3_firstError
theorem dX6_errorPosition_0 : decode cX6_errorPosition 0 = .ok (.aload_n 0, 1) := by decide +kernel
theorem dX6_errorPosition_1 : decode cX6_errorPosition 1 = .ok (.getfield 26, 3) := by decide +kernel
theorem dX6_errorPosition_4 : decode cX6_errorPosition 4 = .ok (.invokevirtual 230, 3) := by decide +kernel
theorem dX6_errorPosition_7 : decode cX6_errorPosition 7 = .ok (.ireturn, 1) := by decide +kernel
set_option maxRecDepth 200000 in
theorem ggX6_runText_X3_isValid : GoodIn wsX6_runText wsX3_isValid := goodIn_r _ [10, 11, 12, 13, 14, 15, 9, 16, 17, 18, 19, 20, 21, 22, 23, 24, 25, 26, 27, 28, 29, 30, 31, 32, 33, 34, 35, 36, 37, 38, 39, 40, 41, 42, 43, 44, 45, 46, 47, 48, 49, 50, 51, 52, 53, 54, 55, 56, 57, 313, 314, 315, 316, 317, 318, 319, 320] rfl (by decide +kernel)
set_option maxRecDepth 200000 in
theorem gX6_runText_X3_isValid : GoodIn wsX6_runText (wsV RX6 233 RX3 yX3_isValid wsX3_isValid) := goodIn_app (goodIn_of _ (by decide +kernel)) ggX6_runText_X3_isValid
set_option maxRecDepth 200000 in
theorem ggX6_runText_X1_save : GoodIn wsX6_runText wsX1_save := goodIn_r _ [62, 63, 64, 65, 66, 67, 61, 68, 69, 70, 71, 72, 73, 74, 75, 76, 77, 78, 79, 80, 81, 82, 83, 84, 85, 86, 87, 321, 322, 323, 324, 325, 326, 327, 328, 329, 330, 331] rfl (by decide +kernel)
set_option maxRecDepth 200000 in
theorem gX6_runText_X1_save : GoodIn wsX6_runText (wsV RX6 55 RX1 yX1_save wsX1_save) := goodIn_app (goodIn_of _ (by decide +kernel)) ggX6_runText_X1_save
set_option maxRecDepth 200000 in
theorem ggX6_runText_X3_rewind : GoodIn wsX6_runText wsX3_rewind := goodIn_r _ [16, 11, 313, 314, 315, 316, 317, 318, 319, 320] rfl (by decide +kernel)
set_option maxRecDepth 200000 in
theorem gX6_runText_X3_rewind : GoodIn wsX6_runText (wsV RX6 238 RX3 yX3_rewind wsX3_rewind) := goodIn_app (goodIn_of _ (by decide +kernel)) ggX6_runText_X3_rewind
set_option maxRecDepth 200000 in
theorem ggX6_runText_X3_readNext : GoodIn wsX6_runText wsX3_readNext := goodIn_r _ [20, 11, 21, 22, 23, 24, 9, 25, 26, 27, 28, 29, 12, 30, 31, 32, 33, 34, 35, 36, 37, 38, 39, 40, 41, 42, 43, 44, 45, 46, 47, 48, 49, 50, 51, 52, 53, 54, 55, 56, 57, 313, 314, 315, 316, 317, 318, 319, 320] rfl (by decide +kernel)
set_option maxRecDepth 200000 in
theorem gX6_runText_X3_readNext : GoodIn wsX6_runText (wsV RX6 241 RX3 yX3_readNext wsX3_readNext) := goodIn_app (goodIn_of _ (by decide +kernel)) ggX6_runText_X3_readNext
set_option maxRecDepth 200000 in
theorem ggX6_runText_X6_carryOutOrder : GoodIn wsX6_runText wsX6_carryOutOrder := goodIn_r _ [93, 3, 5, 94, 95, 96, 9, 97, 35, 98, 99, 100, 101, 48, 102, 103, 104, 105, 21, 106, 107, 108, 56, 109, 110, 111, 112, 76, 113, 78, 114, 115, 116, 117, 118, 119, 120, 121, 122, 123, 124, 125, 85, 126, 127, 128, 129, 87, 130, 131, 132, 133, 80, 86, 134, 135, 136, 137, 138, 139, 140, 141, 142, 143, 144, 145, 146, 147, 148, 149, 54, 150, 151, 152, 153, 53, 40, 41, 42, 43, 26, 27, 28, 29, 12, 30, 154, 155, 156, 157, 158, 159, 160, 161, 162, 163, 164, 165, 166, 167, 168, 169, 55, 57, 170, 171, 172, 173, 174, 175, 176, 177, 178, 179, 180, 181, 182, 183, 184, 185, 186, 187, 188, 189, 190, 191, 192, 193, 194, 195, 196, 197, 198, 81, 82, 83, 84, 199, 200, 201, 202, 203, 204, 205, 206, 207, 208, 209, 210, 211, 212, 213, 214, 215, 216, 217, 218, 219, 220, 221, 222, 223, 224, 225, 226, 227, 228, 229, 230, 231, 232, 233, 234, 235, 236, 237, 238, 239, 240, 241, 242, 243, 244, 245, 246, 247, 248, 249, 250, 251, 252, 253, 254, 255, 256, 257, 258, 259, 260, 261, 262, 263, 264, 265, 266, 267, 268, 269, 270, 271, 79, 272, 273, 274, 275, 276, 277, 278, 279, 280, 281, 282, 283, 284, 285, 286, 287, 288, 289, 290, 291, 292, 293, 294, 295, 296, 297, 298, 299, 300, 301, 302, 303, 304, 305, 306, 307, 308, 309, 310, 311, 312, 313, 314, 315, 316, 317, 318, 319, 320, 326, 327, 328, 329, 330, 331] rfl (by decide +kernel)
set_option maxRecDepth 200000 in
theorem gX6_runText_X6_carryOutOrder : GoodIn wsX6_runText (wsV RX6 244 RX6 yX6_carryOutOrder wsX6_carryOutOrder) := goodIn_app (goodIn_of _ (by decide +kernel)) ggX6_runText_X6_carryOutOrder
theorem dX6_runText_0 : decode cX6_runText 0 = .ok (.aload_n 0, 1) := by decide +kernel
theorem dX6_runText_1 : decode cX6_runText 1 = .ok (.getfield 26, 3) := by decide +kernel
theorem dX6_runText_4 : decode cX6_runText 4 = .ok (.invokevirtual 233, 3) := by decide +kernel
theorem dX6_runText_7 : decode cX6_runText 7 = .ok (.ifCond .ne 13, 3) := by decide +kernel
theorem dX6_runText_10 : decode cX6_runText 10 = .ok (.new 129, 3) := by decide +kernel
theorem dX6_runText_13 : decode cX6_runText 13 = .ok (.dup, 1) := by decide +kernel
theorem dX6_runText_14 : decode cX6_runText 14 = .ok (.ldc 236, 2) := by decide +kernel
theorem dX6_runText_16 : decode cX6_runText 16 = .ok (.invokespecial 133, 3) := by decide +kernel
theorem dX6_runText_19 : decode cX6_runText 19 = .ok (.athrow, 1) := by decide +kernel
theorem dX6_runText_20 : decode cX6_runText 20 = .ok (.aload_n 0, 1) := by decide +kernel
theorem dX6_runText_21 : decode cX6_runText 21 = .ok (.getfield 19, 3) := by decide +kernel
theorem dX6_runText_24 : decode cX6_runText 24 = .ok (.aload_n 0, 1) := by decide +kernel
theorem dX6_runText_25 : decode cX6_runText 25 = .ok (.getfield 10, 3) := by decide +kernel
theorem dX6_runText_28 : decode cX6_runText 28 = .ok (.invokevirtual 55, 3) := by decide +kernel
theorem dX6_runText_31 : decode cX6_runText 31 = .ok (.aload_n 0, 1) := by decide +kernel
theorem dX6_runText_32 : decode cX6_runText 32 = .ok (.getfield 26, 3) := by decide +kernel
theorem dX6_runText_35 : decode cX6_runText 35 = .ok (.invokevirtual 238, 3) := by decide +kernel
theorem dX6_runText_38 : decode cX6_runText 38 = .ok (.iconst 0, 1) := by decide +kernel
theorem dX6_runText_39 : decode cX6_runText 39 = .ok (.istore_n 1, 1) := by decide +kernel
theorem dX6_runText_40 : decode cX6_runText 40 = .ok (.iload_n 1, 1) := by decide +kernel
theorem dX6_runText_41 : decode cX6_runText 41 = .ok (.bipush 60, 2) := by decide +kernel
theorem dX6_runText_43 : decode cX6_runText 43 = .ok (.if_icmp .ge 28, 3) := by decide +kernel
theorem dX6_runText_46 : decode cX6_runText 46 = .ok (.aload_n 0, 1) := by decide +kernel
theorem dX6_runText_47 : decode cX6_runText 47 = .ok (.getfield 26, 3) := by decide +kernel
theorem dX6_runText_50 : decode cX6_runText 50 = .ok (.invokevirtual 241, 3) := by decide +kernel
theorem dX6_runText_53 : decode cX6_runText 53 = .ok (.ifCond .eq 18, 3) := by decide +kernel
theorem dX6_runText_56 : decode cX6_runText 56 = .ok (.aload_n 0, 1) := by decide +kernel
theorem dX6_runText_57 : decode cX6_runText 57 = .ok (.invokevirtual 244, 3) := by decide +kernel
theorem dX6_runText_60 : decode cX6_runText 60 = .ok (.ifCond .ne 5, 3) := by decide +kernel
theorem dX6_runText_63 : decode cX6_runText 63 = .ok (.iload_n 1, 1) := by decide +kernel
theorem dX6_runText_64 : decode cX6_runText 64 = .ok (.ireturn, 1) := by decide +kernel
theorem dX6_runText_65 : decode cX6_runText 65 = .ok (.iinc 1 1, 3) := by decide +kernel
theorem dX6_runText_68 : decode cX6_runText 68 = .ok (.goto (-28), 3) := by decide +kernel
theorem dX6_runText_71 : decode cX6_runText 71 = .ok (.iload_n 1, 1) := by decide +kernel
theorem dX6_runText_72 : decode cX6_runText 72 = .ok (.ireturn, 1) := by decide +kernel
set_option maxRecDepth 200000 in
theorem ggX6_undo_X1_size : GoodIn wsX6_undo wsX1_size := goodIn_r _ [9, 10, 43, 44, 45, 46, 47] rfl (by decide +kernel)
set_option maxRecDepth 200000 in
theorem gX6_undo_X1_size : GoodIn wsX6_undo (wsV RX6 247 RX1 yX1_size wsX1_size) := goodIn_app (goodIn_of _ (by decide +kernel)) ggX6_undo_X1_size
set_option maxRecDepth 200000 in
theorem ggX6_undo_X1_giveBack : GoodIn wsX6_undo wsX1_giveBack := goodIn_r _ [14, 10, 15, 16, 17, 8, 18, 19, 20, 21, 22, 23, 24, 25, 26, 27, 28, 29, 30, 31, 32, 33, 34, 35, 36, 37, 38, 43, 44, 45, 46, 47, 48, 49, 50, 51, 52, 53] rfl (by decide +kernel)
set_option maxRecDepth 200000 in
theorem gX6_undo_X1_giveBack : GoodIn wsX6_undo (wsV RX6 250 RX1 yX1_giveBack wsX1_giveBack) := goodIn_app (goodIn_of _ (by decide +kernel)) ggX6_undo_X1_giveBack
theorem dX6_undo_0 : decode cX6_undo 0 = .ok (.aload_n 0, 1) := by decide +kernel
theorem dX6_undo_1 : decode cX6_undo 1 = .ok (.getfield 19, 3) := by decide +kernel
theorem dX6_undo_4 : decode cX6_undo 4 = .ok (.invokevirtual 247, 3) := by decide +kernel
theorem dX6_undo_7 : decode cX6_undo 7 = .ok (.ifCond .ne 13, 3) := by decide +kernel
theorem dX6_undo_10 : decode cX6_undo 10 = .ok (.new 48, 3) := by decide +kernel
theorem dX6_undo_13 : decode cX6_undo 13 = .ok (.dup, 1) := by decide +kernel
theorem dX6_undo_14 : decode cX6_undo 14 = .ok (.ldc 248, 2) := by decide +kernel
theorem dX6_undo_16 : decode cX6_undo 16 = .ok (.invokespecial 52, 3) := by decide +kernel
theorem dX6_undo_19 : decode cX6_undo 19 = .ok (.athrow, 1) := by decide +kernel
theorem dX6_undo_20 : decode cX6_undo 20 = .ok (.aload_n 0, 1) := by decide +kernel
theorem dX6_undo_21 : decode cX6_undo 21 = .ok (.getfield 19, 3) := by decide +kernel
theorem dX6_undo_24 : decode cX6_undo 24 = .ok (.aload_n 0, 1) := by decide +kernel
theorem dX6_undo_25 : decode cX6_undo 25 = .ok (.getfield 10, 3) := by decide +kernel
theorem dX6_undo_28 : decode cX6_undo 28 = .ok (.invokevirtual 250, 3) := by decide +kernel
theorem dX6_undo_31 : decode cX6_undo 31 = .ok (.aload_n 0, 1) := by decide +kernel
theorem dX6_undo_32 : decode cX6_undo 32 = .ok (.getfield 19, 3) := by decide +kernel
theorem dX6_undo_35 : decode cX6_undo 35 = .ok (.invokevirtual 247, 3) := by decide +kernel
theorem dX6_undo_38 : decode cX6_undo 38 = .ok (.ireturn, 1) := by decide +kernel
set_option maxRecDepth 200000 in
theorem ggX6_savedStates_X1_size : GoodIn wsX6_savedStates wsX1_size := goodIn_r _ [6, 7, 12, 13, 14, 15, 16] rfl (by decide +kernel)
set_option maxRecDepth 200000 in
theorem gX6_savedStates_X1_size : GoodIn wsX6_savedStates (wsV RX6 247 RX1 yX1_size wsX1_size) := goodIn_app (goodIn_of _ (by decide +kernel)) ggX6_savedStates_X1_size
theorem dX6_savedStates_0 : decode cX6_savedStates 0 = .ok (.aload_n 0, 1) := by decide +kernel
theorem dX6_savedStates_1 : decode cX6_savedStates 1 = .ok (.getfield 19, 3) := by decide +kernel
theorem dX6_savedStates_4 : decode cX6_savedStates 4 = .ok (.invokevirtual 247, 3) := by decide +kernel
theorem dX6_savedStates_7 : decode cX6_savedStates 7 = .ok (.ireturn, 1) := by decide +kernel
set_option maxRecDepth 200000 in
theorem ggX6_takeSnapshot_X1_keepSnapshot : GoodIn wsX6_takeSnapshot wsX1_keepSnapshot := goodIn_r _ [7, 8, 9, 10, 11, 6, 12, 13, 14, 15, 16, 17, 18, 19, 20, 21, 22, 23, 24, 25, 26, 27, 36, 37, 38, 39, 40, 41, 42, 43, 44, 45, 46] rfl (by decide +kernel)
set_option maxRecDepth 200000 in
theorem gX6_takeSnapshot_X1_keepSnapshot : GoodIn wsX6_takeSnapshot (wsV RX6 253 RX1 yX1_keepSnapshot wsX1_keepSnapshot) := goodIn_app (goodIn_of _ (by decide +kernel)) ggX6_takeSnapshot_X1_keepSnapshot
set_option maxRecDepth 200000 in
theorem ggX6_takeSnapshot_X4_lineCount : GoodIn wsX6_takeSnapshot wsX4_lineCount := goodIn_r _ [31, 18, 41, 42, 43, 44, 45, 46] rfl (by decide +kernel)
set_option maxRecDepth 200000 in
theorem gX6_takeSnapshot_X4_lineCount : GoodIn wsX6_takeSnapshot (wsV RX6 84 RX4 yX4_lineCount wsX4_lineCount) := goodIn_app (goodIn_of _ (by decide +kernel)) ggX6_takeSnapshot_X4_lineCount
theorem dX6_takeSnapshot_0 : decode cX6_takeSnapshot 0 = .ok (.aload_n 0, 1) := by decide +kernel
theorem dX6_takeSnapshot_1 : decode cX6_takeSnapshot 1 = .ok (.getfield 19, 3) := by decide +kernel
theorem dX6_takeSnapshot_4 : decode cX6_takeSnapshot 4 = .ok (.aload_n 0, 1) := by decide +kernel
theorem dX6_takeSnapshot_5 : decode cX6_takeSnapshot 5 = .ok (.getfield 10, 3) := by decide +kernel
theorem dX6_takeSnapshot_8 : decode cX6_takeSnapshot 8 = .ok (.invokevirtual 253, 3) := by decide +kernel
theorem dX6_takeSnapshot_11 : decode cX6_takeSnapshot 11 = .ok (.aload_n 0, 1) := by decide +kernel
theorem dX6_takeSnapshot_12 : decode cX6_takeSnapshot 12 = .ok (.getfield 10, 3) := by decide +kernel
theorem dX6_takeSnapshot_15 : decode cX6_takeSnapshot 15 = .ok (.invokevirtual 84, 3) := by decide +kernel
theorem dX6_takeSnapshot_18 : decode cX6_takeSnapshot 18 = .ok (.ireturn, 1) := by decide +kernel
set_option maxRecDepth 200000 in
theorem ggX6_restoreSnapshot_X1_hasSnapshot : GoodIn wsX6_restoreSnapshot wsX1_hasSnapshot := goodIn_r _ [9, 10, 53, 54, 55, 56, 57] rfl (by decide +kernel)
set_option maxRecDepth 200000 in
theorem gX6_restoreSnapshot_X1_hasSnapshot : GoodIn wsX6_restoreSnapshot (wsV RX6 256 RX1 yX1_hasSnapshot wsX1_hasSnapshot) := goodIn_app (goodIn_of _ (by decide +kernel)) ggX6_restoreSnapshot_X1_hasSnapshot
set_option maxRecDepth 200000 in
theorem ggX6_restoreSnapshot_X1_save : GoodIn wsX6_restoreSnapshot wsX1_save := goodIn_r _ [14, 15, 16, 17, 18, 19, 8, 20, 21, 22, 23, 24, 25, 26, 27, 28, 29, 30, 31, 32, 33, 34, 35, 36, 37, 38, 39, 53, 54, 55, 56, 57, 58, 59, 60, 61, 62, 63] rfl (by decide +kernel)
set_option maxRecDepth 200000 in
theorem gX6_restoreSnapshot_X1_save : GoodIn wsX6_restoreSnapshot (wsV RX6 55 RX1 yX1_save wsX1_save) := goodIn_app (goodIn_of _ (by decide +kernel)) ggX6_restoreSnapshot_X1_save
set_option maxRecDepth 200000 in
theorem ggX6_restoreSnapshot_X1_giveSnapshot : GoodIn wsX6_restoreSnapshot wsX1_giveSnapshot := goodIn_r _ [43, 10, 44, 22, 23, 8, 24, 25, 26, 27, 28, 29, 30, 31, 32, 33, 34, 35, 36, 37, 38, 39, 53, 54, 55, 56, 57, 58, 59, 60, 61, 62, 63] rfl (by decide +kernel)
set_option maxRecDepth 200000 in
theorem gX6_restoreSnapshot_X1_giveSnapshot : GoodIn wsX6_restoreSnapshot (wsV RX6 261 RX1 yX1_giveSnapshot wsX1_giveSnapshot) := goodIn_app (goodIn_of _ (by decide +kernel)) ggX6_restoreSnapshot_X1_giveSnapshot
set_option maxRecDepth 200000 in
theorem ggX6_restoreSnapshot_X4_lineCount : GoodIn wsX6_restoreSnapshot wsX4_lineCount := goodIn_r _ [48, 30, 58, 59, 60, 61, 62, 63] rfl (by decide +kernel)
set_option maxRecDepth 200000 in
theorem gX6_restoreSnapshot_X4_lineCount : GoodIn wsX6_restoreSnapshot (wsV RX6 84 RX4 yX4_lineCount wsX4_lineCount) := goodIn_app (goodIn_of _ (by decide +kernel)) ggX6_restoreSnapshot_X4_lineCount
theorem dX6_restoreSnapshot_0 : decode cX6_restoreSnapshot 0 = .ok (.aload_n 0, 1) := by decide +kernel
theorem dX6_restoreSnapshot_1 : decode cX6_restoreSnapshot 1 = .ok (.getfield 19, 3) := by decide +kernel
theorem dX6_restoreSnapshot_4 : decode cX6_restoreSnapshot 4 = .ok (.invokevirtual 256, 3) := by decide +kernel
theorem dX6_restoreSnapshot_7 : decode cX6_restoreSnapshot 7 = .ok (.ifCond .ne 14, 3) := by decide +kernel
theorem dX6_restoreSnapshot_10 : decode cX6_restoreSnapshot 10 = .ok (.new 48, 3) := by decide +kernel
theorem dX6_restoreSnapshot_13 : decode cX6_restoreSnapshot 13 = .ok (.dup, 1) := by decide +kernel
theorem dX6_restoreSnapshot_14 : decode cX6_restoreSnapshot 14 = .ok (.ldc_w 259, 3) := by decide +kernel
theorem dX6_restoreSnapshot_17 : decode cX6_restoreSnapshot 17 = .ok (.invokespecial 52, 3) := by decide +kernel
theorem dX6_restoreSnapshot_20 : decode cX6_restoreSnapshot 20 = .ok (.athrow, 1) := by decide +kernel
theorem dX6_restoreSnapshot_21 : decode cX6_restoreSnapshot 21 = .ok (.aload_n 0, 1) := by decide +kernel
theorem dX6_restoreSnapshot_22 : decode cX6_restoreSnapshot 22 = .ok (.getfield 19, 3) := by decide +kernel
theorem dX6_restoreSnapshot_25 : decode cX6_restoreSnapshot 25 = .ok (.aload_n 0, 1) := by decide +kernel
theorem dX6_restoreSnapshot_26 : decode cX6_restoreSnapshot 26 = .ok (.getfield 10, 3) := by decide +kernel
theorem dX6_restoreSnapshot_29 : decode cX6_restoreSnapshot 29 = .ok (.invokevirtual 55, 3) := by decide +kernel
theorem dX6_restoreSnapshot_32 : decode cX6_restoreSnapshot 32 = .ok (.aload_n 0, 1) := by decide +kernel
theorem dX6_restoreSnapshot_33 : decode cX6_restoreSnapshot 33 = .ok (.getfield 19, 3) := by decide +kernel
theorem dX6_restoreSnapshot_36 : decode cX6_restoreSnapshot 36 = .ok (.aload_n 0, 1) := by decide +kernel
theorem dX6_restoreSnapshot_37 : decode cX6_restoreSnapshot 37 = .ok (.getfield 10, 3) := by decide +kernel
theorem dX6_restoreSnapshot_40 : decode cX6_restoreSnapshot 40 = .ok (.invokevirtual 261, 3) := by decide +kernel
theorem dX6_restoreSnapshot_43 : decode cX6_restoreSnapshot 43 = .ok (.aload_n 0, 1) := by decide +kernel
theorem dX6_restoreSnapshot_44 : decode cX6_restoreSnapshot 44 = .ok (.getfield 10, 3) := by decide +kernel
theorem dX6_restoreSnapshot_47 : decode cX6_restoreSnapshot 47 = .ok (.invokevirtual 84, 3) := by decide +kernel
theorem dX6_restoreSnapshot_50 : decode cX6_restoreSnapshot 50 = .ok (.ireturn, 1) := by decide +kernel
set_option maxRecDepth 200000 in
theorem ggX6_carryOutOrder_X3_firstNumber : GoodIn wsX6_carryOutOrder wsX3_firstNumber := goodIn_r _ [7, 8, 252, 253, 254, 255, 256, 257, 258, 259] rfl (by decide +kernel)
set_option maxRecDepth 200000 in
theorem gX6_carryOutOrder_X3_firstNumber : GoodIn wsX6_carryOutOrder (wsV RX6 264 RX3 yX3_firstNumber wsX3_firstNumber) := goodIn_app (goodIn_of _ (by decide +kernel)) ggX6_carryOutOrder_X3_firstNumber
set_option maxRecDepth 200000 in
theorem ggX6_carryOutOrder_X3_secondNumber : GoodIn wsX6_carryOutOrder wsX3_secondNumber := goodIn_r _ [12, 13, 252, 253, 254, 255, 256, 257, 258, 259] rfl (by decide +kernel)
set_option maxRecDepth 200000 in
theorem gX6_carryOutOrder_X3_secondNumber : GoodIn wsX6_carryOutOrder (wsV RX6 267 RX3 yX3_secondNumber wsX3_secondNumber) := goodIn_app (goodIn_of _ (by decide +kernel)) ggX6_carryOutOrder_X3_secondNumber
set_option maxRecDepth 200000 in
theorem ggX6_carryOutOrder_X3_kind : GoodIn wsX6_carryOutOrder wsX3_kind := goodIn_r _ [17, 18, 252, 253, 254, 255, 256, 257, 258, 259] rfl (by decide +kernel)
set_option maxRecDepth 200000 in
theorem gX6_carryOutOrder_X3_kind : GoodIn wsX6_carryOutOrder (wsV RX6 270 RX3 yX3_kind wsX3_kind) := goodIn_app (goodIn_of _ (by decide +kernel)) ggX6_carryOutOrder_X3_kind
set_option maxRecDepth 200000 in
theorem ggX6_carryOutOrder_X6_orderBegin : GoodIn wsX6_carryOutOrder wsX6_orderBegin := goodIn_r _ [23, 2, 24, 25, 26, 27, 28, 29, 30, 31, 32, 33, 34, 35, 36, 37, 38, 39, 40, 41, 42, 43, 44, 45, 46, 47, 48, 49, 50, 51, 52, 53, 248, 249, 250, 251, 260, 261, 262, 263, 264, 265] rfl (by decide +kernel)
set_option maxRecDepth 200000 in
theorem gX6_carryOutOrder_X6_orderBegin : GoodIn wsX6_carryOutOrder (wsV RX6 273 RX6 yX6_orderBegin wsX6_orderBegin) := goodIn_app (goodIn_of _ (by decide +kernel)) ggX6_carryOutOrder_X6_orderBegin
set_option maxRecDepth 200000 in
theorem ggX6_carryOutOrder_X6_orderSteps : GoodIn wsX6_carryOutOrder wsX6_orderSteps := goodIn_r _ [57, 2, 1, 58, 59, 60, 27, 61, 29, 62, 63, 64, 65, 66, 67, 68, 6, 69, 70, 71, 72, 73, 74, 75, 76, 77, 78, 79, 80, 81, 82, 83, 84, 85, 86, 87, 88, 89, 90, 91, 92, 93, 42, 47, 38, 39, 40, 41, 43, 44, 45, 46, 94, 22, 95, 96, 97, 98, 99, 100, 101, 102, 103, 104, 105, 106, 107, 108, 109, 30, 31, 32, 33, 34, 35, 36, 37, 110, 111, 112, 113, 114, 115, 116, 117, 118, 119, 120, 121, 122, 123, 248, 249, 250, 251, 260, 261, 262, 263, 264, 265, 252, 253, 254, 255, 256, 257, 258, 259] rfl (by decide +kernel)
set_option maxRecDepth 200000 in
theorem gX6_carryOutOrder_X6_orderSteps : GoodIn wsX6_carryOutOrder (wsV RX6 277 RX6 yX6_orderSteps wsX6_orderSteps) := goodIn_app (goodIn_of _ (by decide +kernel)) ggX6_carryOutOrder_X6_orderSteps
set_option maxRecDepth 200000 in
theorem ggX6_carryOutOrder_X4_removeLine : GoodIn wsX6_carryOutOrder wsX4_removeLine := goodIn_r _ [127, 52, 42, 53, 47, 29, 128, 63, 64, 27, 65, 129, 130, 131, 132, 133, 134, 135, 136, 260, 261, 262, 263, 264, 265] rfl (by decide +kernel)
set_option maxRecDepth 200000 in
theorem gX6_carryOutOrder_X4_removeLine : GoodIn wsX6_carryOutOrder (wsV RX6 81 RX4 yX4_removeLine wsX4_removeLine) := goodIn_app (goodIn_of _ (by decide +kernel)) ggX6_carryOutOrder_X4_removeLine
set_option maxRecDepth 200000 in
theorem ggX6_carryOutOrder_X6_orderLabel : GoodIn wsX6_carryOutOrder wsX6_orderLabel := goodIn_r _ [140, 2, 141, 142, 143, 27, 144, 29, 42, 145, 146, 147, 148, 149, 150, 151, 152, 153, 154, 155, 39, 40, 41, 156, 91, 92, 93, 47, 157, 158, 159, 160, 161, 52, 162, 163, 164, 165, 166, 167, 168, 169, 170, 171, 172, 173, 174, 175, 176, 177, 178, 179, 180, 181, 182, 90, 38, 183, 184, 185, 186, 187, 44, 45, 46, 108, 22, 109, 105, 106, 188, 189, 190, 191, 192, 59, 60, 61, 193, 194, 195, 196, 53, 197, 198, 199, 200, 201, 202, 203, 204, 205, 104, 107, 206, 207, 208, 209, 210, 211, 212, 213, 214, 62, 63, 64, 65, 215, 216, 217, 218, 248, 249, 250, 251, 260, 261, 262, 263, 264, 265] rfl (by decide +kernel)
set_option maxRecDepth 200000 in
theorem gX6_carryOutOrder_X6_orderLabel : GoodIn wsX6_carryOutOrder (wsV RX6 280 RX6 yX6_orderLabel wsX6_orderLabel) := goodIn_app (goodIn_of _ (by decide +kernel)) ggX6_carryOutOrder_X6_orderLabel
set_option maxRecDepth 200000 in
theorem ggX6_carryOutOrder_X6_orderUnlabel : GoodIn wsX6_carryOutOrder wsX6_orderUnlabel := goodIn_r _ [222, 2, 223, 194, 195, 27, 196, 29, 53, 215, 216, 217, 218, 248, 249, 250, 251, 260, 261, 262, 263, 264, 265] rfl (by decide +kernel)
set_option maxRecDepth 200000 in
theorem gX6_carryOutOrder_X6_orderUnlabel : GoodIn wsX6_carryOutOrder (wsV RX6 283 RX6 yX6_orderUnlabel wsX6_orderUnlabel) := goodIn_app (goodIn_of _ (by decide +kernel)) ggX6_carryOutOrder_X6_orderUnlabel
set_option maxRecDepth 200000 in
theorem ggX6_carryOutOrder_X2_best : GoodIn wsX6_carryOutOrder wsX2_best := goodIn_r _ [226, 155, 39, 40, 27, 41, 29, 42, 149, 150, 147, 151, 152, 153, 154, 156, 91, 92, 93, 47, 157, 142, 143, 144, 158, 159, 160, 161, 52, 162, 163, 164, 165, 166, 167, 168, 169, 170, 171, 172, 173, 174, 175, 176, 177, 178, 179, 180, 181, 182, 90, 38, 183, 184, 185, 186, 187, 44, 45, 46, 108, 22, 109, 105, 106, 188, 189, 190, 191, 192, 59, 60, 61, 193, 194, 195, 196, 53, 197, 198, 199, 200, 201, 202, 203, 204, 205, 104, 107, 206, 207, 208, 209, 210, 260, 261, 262, 263, 264, 265] rfl (by decide +kernel)
set_option maxRecDepth 200000 in
theorem gX6_carryOutOrder_X2_best : GoodIn wsX6_carryOutOrder (va_wsS RX6 117 yX2_best wsX2_best) := goodIn_app (goodIn_of _ (by decide +kernel)) ggX6_carryOutOrder_X2_best
set_option maxRecDepth 200000 in
theorem ggX6_carryOutOrder_X6_orderPut : GoodIn wsX6_carryOutOrder wsX6_orderPut := goodIn_r _ [214, 2, 62, 63, 64, 27, 65, 29, 215, 216, 217, 218, 53, 248, 249, 250, 251, 260, 261, 262, 263, 264, 265] rfl (by decide +kernel)
set_option maxRecDepth 200000 in
theorem gX6_carryOutOrder_X6_orderPut : GoodIn wsX6_carryOutOrder (wsV RX6 286 RX6 yX6_orderPut wsX6_orderPut) := goodIn_app (goodIn_of _ (by decide +kernel)) ggX6_carryOutOrder_X6_orderPut
set_option maxRecDepth 200000 in
theorem ggX6_carryOutOrder_X2_setAll : GoodIn wsX6_carryOutOrder wsX2_setAll := goodIn_r _ [229, 192, 59, 60, 27, 61, 29, 230, 216, 217, 218, 53, 231, 232, 233, 234, 235, 236, 237, 238, 239, 240, 241, 242, 52, 243, 225, 147, 226, 155, 39, 40, 41, 42, 149, 150, 151, 152, 153, 154, 156, 91, 92, 93, 47, 157, 142, 143, 144, 158, 159, 160, 161, 162, 163, 164, 165, 166, 167, 168, 169, 170, 171, 172, 173, 174, 175, 176, 177, 178, 179, 180, 181, 182, 90, 38, 183, 184, 185, 186, 187, 44, 45, 46, 108, 22, 109, 105, 106, 188, 189, 190, 191, 193, 194, 195, 196, 197, 198, 199, 200, 201, 202, 203, 204, 205, 104, 107, 206, 207, 208, 209, 210, 260, 261, 262, 263, 264, 265] rfl (by decide +kernel)
set_option maxRecDepth 200000 in
theorem gX6_carryOutOrder_X2_setAll : GoodIn wsX6_carryOutOrder (va_wsS RX6 123 yX2_setAll wsX2_setAll) := goodIn_app (goodIn_of _ (by decide +kernel)) ggX6_carryOutOrder_X2_setAll
set_option maxRecDepth 200000 in
theorem ggX6_carryOutOrder_X4_putGap : GoodIn wsX6_carryOutOrder wsX4_putGap := goodIn_r _ [247, 210, 260, 261, 262, 263, 264, 265] rfl (by decide +kernel)
set_option maxRecDepth 200000 in
theorem gX6_carryOutOrder_X4_putGap : GoodIn wsX6_carryOutOrder (wsV RX6 137 RX4 yX4_putGap wsX4_putGap) := goodIn_app (goodIn_of _ (by decide +kernel)) ggX6_carryOutOrder_X4_putGap
theorem dX6_carryOutOrder_0 : decode cX6_carryOutOrder 0 = .ok (.aload_n 0, 1) := by decide +kernel
theorem dX6_carryOutOrder_1 : decode cX6_carryOutOrder 1 = .ok (.getfield 26, 3) := by decide +kernel
theorem dX6_carryOutOrder_4 : decode cX6_carryOutOrder 4 = .ok (.invokevirtual 264, 3) := by decide +kernel
theorem dX6_carryOutOrder_7 : decode cX6_carryOutOrder 7 = .ok (.istore_n 1, 1) := by decide +kernel
theorem dX6_carryOutOrder_8 : decode cX6_carryOutOrder 8 = .ok (.aload_n 0, 1) := by decide +kernel
theorem dX6_carryOutOrder_9 : decode cX6_carryOutOrder 9 = .ok (.getfield 26, 3) := by decide +kernel
theorem dX6_carryOutOrder_12 : decode cX6_carryOutOrder 12 = .ok (.invokevirtual 267, 3) := by decide +kernel
theorem dX6_carryOutOrder_15 : decode cX6_carryOutOrder 15 = .ok (.istore_n 2, 1) := by decide +kernel
theorem dX6_carryOutOrder_16 : decode cX6_carryOutOrder 16 = .ok (.aload_n 0, 1) := by decide +kernel
theorem dX6_carryOutOrder_17 : decode cX6_carryOutOrder 17 = .ok (.getfield 26, 3) := by decide +kernel
theorem dX6_carryOutOrder_20 : decode cX6_carryOutOrder 20 = .ok (.invokevirtual 270, 3) := by decide +kernel
theorem dX6_carryOutOrder_23 : decode cX6_carryOutOrder 23 = .ok (.tableswitch 172 97 119 #[153, 139, 172, 172, 172, 172, 162, 172, 172, 172, 172, 126, 172, 105, 172, 172, 172, 172, 112, 172, 133, 172, 117], 105) := by decide +kernel
theorem dX6_carryOutOrder_128 : decode cX6_carryOutOrder 128 = .ok (.aload_n 0, 1) := by decide +kernel
theorem dX6_carryOutOrder_129 : decode cX6_carryOutOrder 129 = .ok (.iload_n 1, 1) := by decide +kernel
theorem dX6_carryOutOrder_130 : decode cX6_carryOutOrder 130 = .ok (.iload_n 2, 1) := by decide +kernel
theorem dX6_carryOutOrder_131 : decode cX6_carryOutOrder 131 = .ok (.invokevirtual 273, 3) := by decide +kernel
theorem dX6_carryOutOrder_134 : decode cX6_carryOutOrder 134 = .ok (.ireturn, 1) := by decide +kernel
theorem dX6_carryOutOrder_135 : decode cX6_carryOutOrder 135 = .ok (.aload_n 0, 1) := by decide +kernel
theorem dX6_carryOutOrder_136 : decode cX6_carryOutOrder 136 = .ok (.invokevirtual 277, 3) := by decide +kernel
theorem dX6_carryOutOrder_139 : decode cX6_carryOutOrder 139 = .ok (.ireturn, 1) := by decide +kernel
theorem dX6_carryOutOrder_140 : decode cX6_carryOutOrder 140 = .ok (.aload_n 0, 1) := by decide +kernel
theorem dX6_carryOutOrder_141 : decode cX6_carryOutOrder 141 = .ok (.getfield 10, 3) := by decide +kernel
theorem dX6_carryOutOrder_144 : decode cX6_carryOutOrder 144 = .ok (.iload_n 1, 1) := by decide +kernel
theorem dX6_carryOutOrder_145 : decode cX6_carryOutOrder 145 = .ok (.invokevirtual 81, 3) := by decide +kernel
theorem dX6_carryOutOrder_148 : decode cX6_carryOutOrder 148 = .ok (.ireturn, 1) := by decide +kernel
theorem dX6_carryOutOrder_149 : decode cX6_carryOutOrder 149 = .ok (.aload_n 0, 1) := by decide +kernel
theorem dX6_carryOutOrder_150 : decode cX6_carryOutOrder 150 = .ok (.iload_n 1, 1) := by decide +kernel
theorem dX6_carryOutOrder_151 : decode cX6_carryOutOrder 151 = .ok (.iload_n 2, 1) := by decide +kernel
theorem dX6_carryOutOrder_152 : decode cX6_carryOutOrder 152 = .ok (.invokevirtual 280, 3) := by decide +kernel
theorem dX6_carryOutOrder_155 : decode cX6_carryOutOrder 155 = .ok (.ireturn, 1) := by decide +kernel
theorem dX6_carryOutOrder_156 : decode cX6_carryOutOrder 156 = .ok (.aload_n 0, 1) := by decide +kernel
theorem dX6_carryOutOrder_157 : decode cX6_carryOutOrder 157 = .ok (.iload_n 1, 1) := by decide +kernel
theorem dX6_carryOutOrder_158 : decode cX6_carryOutOrder 158 = .ok (.invokevirtual 283, 3) := by decide +kernel
theorem dX6_carryOutOrder_161 : decode cX6_carryOutOrder 161 = .ok (.ireturn, 1) := by decide +kernel
theorem dX6_carryOutOrder_162 : decode cX6_carryOutOrder 162 = .ok (.aload_n 0, 1) := by decide +kernel
theorem dX6_carryOutOrder_163 : decode cX6_carryOutOrder 163 = .ok (.iload_n 1, 1) := by decide +kernel
theorem dX6_carryOutOrder_164 : decode cX6_carryOutOrder 164 = .ok (.aload_n 0, 1) := by decide +kernel
theorem dX6_carryOutOrder_165 : decode cX6_carryOutOrder 165 = .ok (.getfield 10, 3) := by decide +kernel
theorem dX6_carryOutOrder_168 : decode cX6_carryOutOrder 168 = .ok (.iload_n 1, 1) := by decide +kernel
theorem dX6_carryOutOrder_169 : decode cX6_carryOutOrder 169 = .ok (.invokestatic 117, 3) := by decide +kernel
theorem dX6_carryOutOrder_172 : decode cX6_carryOutOrder 172 = .ok (.invokevirtual 286, 3) := by decide +kernel
theorem dX6_carryOutOrder_175 : decode cX6_carryOutOrder 175 = .ok (.ireturn, 1) := by decide +kernel
theorem dX6_carryOutOrder_176 : decode cX6_carryOutOrder 176 = .ok (.aload_n 0, 1) := by decide +kernel
theorem dX6_carryOutOrder_177 : decode cX6_carryOutOrder 177 = .ok (.getfield 10, 3) := by decide +kernel
theorem dX6_carryOutOrder_180 : decode cX6_carryOutOrder 180 = .ok (.invokestatic 123, 3) := by decide +kernel
theorem dX6_carryOutOrder_183 : decode cX6_carryOutOrder 183 = .ok (.iconst 1, 1) := by decide +kernel
theorem dX6_carryOutOrder_184 : decode cX6_carryOutOrder 184 = .ok (.ireturn, 1) := by decide +kernel
theorem dX6_carryOutOrder_185 : decode cX6_carryOutOrder 185 = .ok (.aload_n 0, 1) := by decide +kernel
theorem dX6_carryOutOrder_186 : decode cX6_carryOutOrder 186 = .ok (.getfield 10, 3) := by decide +kernel
theorem dX6_carryOutOrder_189 : decode cX6_carryOutOrder 189 = .ok (.iload_n 1, 1) := by decide +kernel
theorem dX6_carryOutOrder_190 : decode cX6_carryOutOrder 190 = .ok (.invokevirtual 137, 3) := by decide +kernel
theorem dX6_carryOutOrder_193 : decode cX6_carryOutOrder 193 = .ok (.iconst 1, 1) := by decide +kernel
theorem dX6_carryOutOrder_194 : decode cX6_carryOutOrder 194 = .ok (.ireturn, 1) := by decide +kernel
theorem dX6_carryOutOrder_195 : decode cX6_carryOutOrder 195 = .ok (.iconst 0, 1) := by decide +kernel
theorem dX6_carryOutOrder_196 : decode cX6_carryOutOrder 196 = .ok (.ireturn, 1) := by decide +kernel
set_option maxRecDepth 200000 in
theorem ggX6_orderBegin_X4_hasRoomAt : GoodIn wsX6_orderBegin wsX4_hasRoomAt := goodIn_r _ [6, 7, 8, 9, 10, 5, 11, 12, 13, 14, 15, 16, 17, 18, 19, 20, 21, 22, 23, 24, 25, 36, 37, 38, 39, 40, 41] rfl (by decide +kernel)
set_option maxRecDepth 200000 in
theorem gX6_orderBegin_X4_hasRoomAt : GoodIn wsX6_orderBegin (wsV RX6 44 RX4 yX4_hasRoomAt wsX4_hasRoomAt) := goodIn_app (goodIn_of _ (by decide +kernel)) ggX6_orderBegin_X4_hasRoomAt
set_option maxRecDepth 200000 in
theorem ggX6_orderBegin_X4_addLine : GoodIn wsX6_orderBegin wsX4_addLine := goodIn_r _ [29, 7, 30, 20, 31, 25, 36, 37, 38, 39, 40, 41] rfl (by decide +kernel)
set_option maxRecDepth 200000 in
theorem gX6_orderBegin_X4_addLine : GoodIn wsX6_orderBegin (wsV RX6 59 RX4 yX4_addLine wsX4_addLine) := goodIn_app (goodIn_of _ (by decide +kernel)) ggX6_orderBegin_X4_addLine
theorem dX6_orderBegin_0 : decode cX6_orderBegin 0 = .ok (.aload_n 0, 1) := by decide +kernel
theorem dX6_orderBegin_1 : decode cX6_orderBegin 1 = .ok (.getfield 10, 3) := by decide +kernel
theorem dX6_orderBegin_4 : decode cX6_orderBegin 4 = .ok (.iload_n 2, 1) := by decide +kernel
theorem dX6_orderBegin_5 : decode cX6_orderBegin 5 = .ok (.invokevirtual 44, 3) := by decide +kernel
theorem dX6_orderBegin_8 : decode cX6_orderBegin 8 = .ok (.ifCond .ne 5, 3) := by decide +kernel
theorem dX6_orderBegin_11 : decode cX6_orderBegin 11 = .ok (.iconst 0, 1) := by decide +kernel
theorem dX6_orderBegin_12 : decode cX6_orderBegin 12 = .ok (.ireturn, 1) := by decide +kernel
theorem dX6_orderBegin_13 : decode cX6_orderBegin 13 = .ok (.aload_n 0, 1) := by decide +kernel
theorem dX6_orderBegin_14 : decode cX6_orderBegin 14 = .ok (.getfield 10, 3) := by decide +kernel
theorem dX6_orderBegin_17 : decode cX6_orderBegin 17 = .ok (.iload_n 1, 1) := by decide +kernel
theorem dX6_orderBegin_18 : decode cX6_orderBegin 18 = .ok (.iload_n 2, 1) := by decide +kernel
theorem dX6_orderBegin_19 : decode cX6_orderBegin 19 = .ok (.invokevirtual 59, 3) := by decide +kernel
theorem dX6_orderBegin_22 : decode cX6_orderBegin 22 = .ok (.pop, 1) := by decide +kernel
theorem dX6_orderBegin_23 : decode cX6_orderBegin 23 = .ok (.iconst 1, 1) := by decide +kernel
theorem dX6_orderBegin_24 : decode cX6_orderBegin 24 = .ok (.ireturn, 1) := by decide +kernel
set_option maxRecDepth 200000 in
theorem ggX6_orderSteps_X4_lineCount : GoodIn wsX6_orderSteps wsX4_lineCount := goodIn_r _ [7, 8, 95, 96, 97, 98, 99, 100] rfl (by decide +kernel)
set_option maxRecDepth 200000 in
theorem gX6_orderSteps_X4_lineCount : GoodIn wsX6_orderSteps (wsV RX6 84 RX4 yX4_lineCount wsX4_lineCount) := goodIn_app (goodIn_of _ (by decide +kernel)) ggX6_orderSteps_X4_lineCount
set_option maxRecDepth 200000 in
theorem ggX6_orderSteps_X4_hasLine : GoodIn wsX6_orderSteps wsX4_hasLine := goodIn_r _ [12, 8, 95, 96, 97, 98, 99, 100] rfl (by decide +kernel)
set_option maxRecDepth 200000 in
theorem gX6_orderSteps_X4_hasLine : GoodIn wsX6_orderSteps (wsV RX6 202 RX4 yX4_hasLine wsX4_hasLine) := goodIn_app (goodIn_of _ (by decide +kernel)) ggX6_orderSteps_X4_hasLine
set_option maxRecDepth 200000 in
theorem ggX6_orderSteps_X3_directionCount : GoodIn wsX6_orderSteps wsX3_directionCount := goodIn_r _ [17, 18, 101, 102, 103, 104, 105, 106, 107, 108] rfl (by decide +kernel)
set_option maxRecDepth 200000 in
theorem gX6_orderSteps_X3_directionCount : GoodIn wsX6_orderSteps (wsV RX6 289 RX3 yX3_directionCount wsX3_directionCount) := goodIn_app (goodIn_of _ (by decide +kernel)) ggX6_orderSteps_X3_directionCount
set_option maxRecDepth 200000 in
theorem ggX6_orderSteps_X3_directionAt : GoodIn wsX6_orderSteps wsX3_directionAt := goodIn_r _ [22, 23, 24, 25, 26, 16, 27, 28, 29, 30, 31, 32, 33, 101, 102, 103, 104, 105, 106, 107, 108] rfl (by decide +kernel)
set_option maxRecDepth 200000 in
theorem gX6_orderSteps_X3_directionAt : GoodIn wsX6_orderSteps (wsV RX6 292 RX3 yX3_directionAt wsX3_directionAt) := goodIn_app (goodIn_of _ (by decide +kernel)) ggX6_orderSteps_X3_directionAt
set_option maxRecDepth 200000 in
theorem ggX6_orderSteps_X4_reasonAgainstStep : GoodIn wsX6_orderSteps wsX4_reasonAgainstStep := goodIn_r _ [37, 38, 39, 40, 6, 41, 8, 42, 43, 44, 45, 46, 47, 48, 49, 50, 51, 52, 53, 54, 55, 56, 57, 58, 59, 60, 61, 62, 63, 64, 65, 66, 67, 68, 69, 70, 71, 72, 73, 74, 75, 76, 77, 78, 79, 80, 81, 82, 83, 84, 85, 86, 95, 96, 97, 98, 99, 100] rfl (by decide +kernel)
set_option maxRecDepth 200000 in
theorem gX6_orderSteps_X4_reasonAgainstStep : GoodIn wsX6_orderSteps (wsV RX6 69 RX4 yX4_reasonAgainstStep wsX4_reasonAgainstStep) := goodIn_app (goodIn_of _ (by decide +kernel)) ggX6_orderSteps_X4_reasonAgainstStep
set_option maxRecDepth 200000 in
theorem ggX6_orderSteps_X4_addStep : GoodIn wsX6_orderSteps wsX4_addStep := goodIn_r _ [90, 43, 42, 44, 45, 46, 6, 47, 8, 48, 49, 50, 51, 52, 53, 54, 55, 56, 57, 58, 59, 60, 61, 62, 63, 64, 65, 66, 67, 68, 95, 96, 97, 98, 99, 100] rfl (by decide +kernel)
set_option maxRecDepth 200000 in
theorem gX6_orderSteps_X4_addStep : GoodIn wsX6_orderSteps (wsV RX6 74 RX4 yX4_addStep wsX4_addStep) := goodIn_app (goodIn_of _ (by decide +kernel)) ggX6_orderSteps_X4_addStep
theorem dX6_orderSteps_0 : decode cX6_orderSteps 0 = .ok (.aload_n 0, 1) := by decide +kernel
theorem dX6_orderSteps_1 : decode cX6_orderSteps 1 = .ok (.getfield 10, 3) := by decide +kernel
theorem dX6_orderSteps_4 : decode cX6_orderSteps 4 = .ok (.invokevirtual 84, 3) := by decide +kernel
theorem dX6_orderSteps_7 : decode cX6_orderSteps 7 = .ok (.iconst 1, 1) := by decide +kernel
theorem dX6_orderSteps_8 : decode cX6_orderSteps 8 = .ok (.isub, 1) := by decide +kernel
theorem dX6_orderSteps_9 : decode cX6_orderSteps 9 = .ok (.istore_n 1, 1) := by decide +kernel
theorem dX6_orderSteps_10 : decode cX6_orderSteps 10 = .ok (.aload_n 0, 1) := by decide +kernel
theorem dX6_orderSteps_11 : decode cX6_orderSteps 11 = .ok (.getfield 10, 3) := by decide +kernel
theorem dX6_orderSteps_14 : decode cX6_orderSteps 14 = .ok (.iload_n 1, 1) := by decide +kernel
theorem dX6_orderSteps_15 : decode cX6_orderSteps 15 = .ok (.invokevirtual 202, 3) := by decide +kernel
theorem dX6_orderSteps_18 : decode cX6_orderSteps 18 = .ok (.ifCond .ne 5, 3) := by decide +kernel
theorem dX6_orderSteps_21 : decode cX6_orderSteps 21 = .ok (.iconst 0, 1) := by decide +kernel
theorem dX6_orderSteps_22 : decode cX6_orderSteps 22 = .ok (.ireturn, 1) := by decide +kernel
theorem dX6_orderSteps_23 : decode cX6_orderSteps 23 = .ok (.iconst 0, 1) := by decide +kernel
theorem dX6_orderSteps_24 : decode cX6_orderSteps 24 = .ok (.istore_n 2, 1) := by decide +kernel
theorem dX6_orderSteps_25 : decode cX6_orderSteps 25 = .ok (.iload_n 2, 1) := by decide +kernel
theorem dX6_orderSteps_26 : decode cX6_orderSteps 26 = .ok (.aload_n 0, 1) := by decide +kernel
theorem dX6_orderSteps_27 : decode cX6_orderSteps 27 = .ok (.getfield 26, 3) := by decide +kernel
theorem dX6_orderSteps_30 : decode cX6_orderSteps 30 = .ok (.invokevirtual 289, 3) := by decide +kernel
theorem dX6_orderSteps_33 : decode cX6_orderSteps 33 = .ok (.if_icmp .ge 41, 3) := by decide +kernel
theorem dX6_orderSteps_36 : decode cX6_orderSteps 36 = .ok (.aload_n 0, 1) := by decide +kernel
theorem dX6_orderSteps_37 : decode cX6_orderSteps 37 = .ok (.getfield 26, 3) := by decide +kernel
theorem dX6_orderSteps_40 : decode cX6_orderSteps 40 = .ok (.iload_n 2, 1) := by decide +kernel
theorem dX6_orderSteps_41 : decode cX6_orderSteps 41 = .ok (.invokevirtual 292, 3) := by decide +kernel
theorem dX6_orderSteps_44 : decode cX6_orderSteps 44 = .ok (.istore_n 3, 1) := by decide +kernel
theorem dX6_orderSteps_45 : decode cX6_orderSteps 45 = .ok (.aload_n 0, 1) := by decide +kernel
theorem dX6_orderSteps_46 : decode cX6_orderSteps 46 = .ok (.getfield 10, 3) := by decide +kernel
theorem dX6_orderSteps_49 : decode cX6_orderSteps 49 = .ok (.iload_n 1, 1) := by decide +kernel
theorem dX6_orderSteps_50 : decode cX6_orderSteps 50 = .ok (.iload_n 3, 1) := by decide +kernel
theorem dX6_orderSteps_51 : decode cX6_orderSteps 51 = .ok (.invokevirtual 69, 3) := by decide +kernel
theorem dX6_orderSteps_54 : decode cX6_orderSteps 54 = .ok (.ifCond .eq 5, 3) := by decide +kernel
theorem dX6_orderSteps_57 : decode cX6_orderSteps 57 = .ok (.iconst 0, 1) := by decide +kernel
theorem dX6_orderSteps_58 : decode cX6_orderSteps 58 = .ok (.ireturn, 1) := by decide +kernel
theorem dX6_orderSteps_59 : decode cX6_orderSteps 59 = .ok (.aload_n 0, 1) := by decide +kernel
theorem dX6_orderSteps_60 : decode cX6_orderSteps 60 = .ok (.getfield 10, 3) := by decide +kernel
theorem dX6_orderSteps_63 : decode cX6_orderSteps 63 = .ok (.iload_n 1, 1) := by decide +kernel
theorem dX6_orderSteps_64 : decode cX6_orderSteps 64 = .ok (.iload_n 3, 1) := by decide +kernel
theorem dX6_orderSteps_65 : decode cX6_orderSteps 65 = .ok (.invokevirtual 74, 3) := by decide +kernel
theorem dX6_orderSteps_68 : decode cX6_orderSteps 68 = .ok (.iinc 2 1, 3) := by decide +kernel
theorem dX6_orderSteps_71 : decode cX6_orderSteps 71 = .ok (.goto (-46), 3) := by decide +kernel
theorem dX6_orderSteps_74 : decode cX6_orderSteps 74 = .ok (.iconst 1, 1) := by decide +kernel
theorem dX6_orderSteps_75 : decode cX6_orderSteps 75 = .ok (.ireturn, 1) := by decide +kernel
set_option maxRecDepth 200000 in
theorem ggX6_orderLabel_X4_hasNumber : GoodIn wsX6_orderLabel wsX4_hasNumber := goodIn_r _ [6, 7, 8, 115, 116, 117, 118, 119, 120] rfl (by decide +kernel)
set_option maxRecDepth 200000 in
theorem gX6_orderLabel_X4_hasNumber : GoodIn wsX6_orderLabel (wsV RX6 294 RX4 yX4_hasNumber wsX4_hasNumber) := goodIn_app (goodIn_of _ (by decide +kernel)) ggX6_orderLabel_X4_hasNumber
set_option maxRecDepth 200000 in
theorem ggX6_orderLabel_X2_reasonAgainst : GoodIn wsX6_orderLabel wsX2_reasonAgainst := goodIn_r _ [12, 13, 14, 11, 15, 16, 17, 18, 19, 20, 21, 5, 22, 7, 8, 23, 24, 25, 26, 27, 28, 3, 4, 6, 29, 30, 31, 32, 33, 34, 35, 36, 37, 38, 39, 40, 41, 42, 43, 44, 45, 46, 47, 48, 49, 50, 51, 52, 53, 54, 55, 56, 57, 58, 59, 60, 61, 62, 63, 64, 65, 66, 67, 68, 69, 70, 71, 72, 73, 74, 75, 76, 77, 78, 79, 80, 81, 82, 83, 84, 85, 86, 87, 88, 89, 90, 91, 92, 93, 94, 95, 96, 97, 98, 115, 116, 117, 118, 119, 120] rfl (by decide +kernel)
set_option maxRecDepth 200000 in
theorem gX6_orderLabel_X2_reasonAgainst : GoodIn wsX6_orderLabel (va_wsS RX6 101 yX2_reasonAgainst wsX2_reasonAgainst) := goodIn_app (goodIn_of _ (by decide +kernel)) ggX6_orderLabel_X2_reasonAgainst
set_option maxRecDepth 200000 in
theorem ggX6_orderLabel_X6_orderPut : GoodIn wsX6_orderLabel wsX6_orderPut := goodIn_r _ [102, 1, 103, 104, 105, 5, 106, 7, 107, 108, 109, 110, 82, 111, 112, 113, 114, 115, 116, 117, 118, 119, 120] rfl (by decide +kernel)
set_option maxRecDepth 200000 in
theorem gX6_orderLabel_X6_orderPut : GoodIn wsX6_orderLabel (wsV RX6 286 RX6 yX6_orderPut wsX6_orderPut) := goodIn_app (goodIn_of _ (by decide +kernel)) ggX6_orderLabel_X6_orderPut
theorem dX6_orderLabel_0 : decode cX6_orderLabel 0 = .ok (.aload_n 0, 1) := by decide +kernel
theorem dX6_orderLabel_1 : decode cX6_orderLabel 1 = .ok (.getfield 10, 3) := by decide +kernel
theorem dX6_orderLabel_4 : decode cX6_orderLabel 4 = .ok (.iload_n 1, 1) := by decide +kernel
theorem dX6_orderLabel_5 : decode cX6_orderLabel 5 = .ok (.iload_n 2, 1) := by decide +kernel
theorem dX6_orderLabel_6 : decode cX6_orderLabel 6 = .ok (.invokevirtual 294, 3) := by decide +kernel
theorem dX6_orderLabel_9 : decode cX6_orderLabel 9 = .ok (.ifCond .eq 15, 3) := by decide +kernel
theorem dX6_orderLabel_12 : decode cX6_orderLabel 12 = .ok (.aload_n 0, 1) := by decide +kernel
theorem dX6_orderLabel_13 : decode cX6_orderLabel 13 = .ok (.getfield 10, 3) := by decide +kernel
theorem dX6_orderLabel_16 : decode cX6_orderLabel 16 = .ok (.iload_n 1, 1) := by decide +kernel
theorem dX6_orderLabel_17 : decode cX6_orderLabel 17 = .ok (.iload_n 2, 1) := by decide +kernel
theorem dX6_orderLabel_18 : decode cX6_orderLabel 18 = .ok (.invokestatic 101, 3) := by decide +kernel
theorem dX6_orderLabel_21 : decode cX6_orderLabel 21 = .ok (.ifCond .eq 5, 3) := by decide +kernel
theorem dX6_orderLabel_24 : decode cX6_orderLabel 24 = .ok (.iconst 0, 1) := by decide +kernel
theorem dX6_orderLabel_25 : decode cX6_orderLabel 25 = .ok (.ireturn, 1) := by decide +kernel
theorem dX6_orderLabel_26 : decode cX6_orderLabel 26 = .ok (.aload_n 0, 1) := by decide +kernel
theorem dX6_orderLabel_27 : decode cX6_orderLabel 27 = .ok (.iload_n 1, 1) := by decide +kernel
theorem dX6_orderLabel_28 : decode cX6_orderLabel 28 = .ok (.iload_n 2, 1) := by decide +kernel
theorem dX6_orderLabel_29 : decode cX6_orderLabel 29 = .ok (.invokevirtual 286, 3) := by decide +kernel
theorem dX6_orderLabel_32 : decode cX6_orderLabel 32 = .ok (.ireturn, 1) := by decide +kernel
set_option maxRecDepth 200000 in
theorem ggX6_orderPut_X4_hasLine : GoodIn wsX6_orderPut wsX4_hasLine := goodIn_r _ [6, 7, 17, 18, 19, 20, 21, 22] rfl (by decide +kernel)
set_option maxRecDepth 200000 in
theorem gX6_orderPut_X4_hasLine : GoodIn wsX6_orderPut (wsV RX6 202 RX4 yX4_hasLine wsX4_hasLine) := goodIn_app (goodIn_of _ (by decide +kernel)) ggX6_orderPut_X4_hasLine
set_option maxRecDepth 200000 in
theorem ggX6_orderPut_X4_putLabel : GoodIn wsX6_orderPut wsX4_putLabel := goodIn_r _ [11, 7, 12, 17, 18, 19, 20, 21, 22] rfl (by decide +kernel)
set_option maxRecDepth 200000 in
theorem gX6_orderPut_X4_putLabel : GoodIn wsX6_orderPut (wsV RX6 95 RX4 yX4_putLabel wsX4_putLabel) := goodIn_app (goodIn_of _ (by decide +kernel)) ggX6_orderPut_X4_putLabel
theorem dX6_orderPut_0 : decode cX6_orderPut 0 = .ok (.aload_n 0, 1) := by decide +kernel
theorem dX6_orderPut_1 : decode cX6_orderPut 1 = .ok (.getfield 10, 3) := by decide +kernel
theorem dX6_orderPut_4 : decode cX6_orderPut 4 = .ok (.iload_n 1, 1) := by decide +kernel
theorem dX6_orderPut_5 : decode cX6_orderPut 5 = .ok (.invokevirtual 202, 3) := by decide +kernel
theorem dX6_orderPut_8 : decode cX6_orderPut 8 = .ok (.ifCond .eq 8, 3) := by decide +kernel
theorem dX6_orderPut_11 : decode cX6_orderPut 11 = .ok (.iload_n 2, 1) := by decide +kernel
theorem dX6_orderPut_12 : decode cX6_orderPut 12 = .ok (.iconst (-1), 1) := by decide +kernel
theorem dX6_orderPut_13 : decode cX6_orderPut 13 = .ok (.if_icmp .ne 5, 3) := by decide +kernel
theorem dX6_orderPut_16 : decode cX6_orderPut 16 = .ok (.iconst 0, 1) := by decide +kernel
theorem dX6_orderPut_17 : decode cX6_orderPut 17 = .ok (.ireturn, 1) := by decide +kernel
theorem dX6_orderPut_18 : decode cX6_orderPut 18 = .ok (.aload_n 0, 1) := by decide +kernel
theorem dX6_orderPut_19 : decode cX6_orderPut 19 = .ok (.getfield 10, 3) := by decide +kernel
theorem dX6_orderPut_22 : decode cX6_orderPut 22 = .ok (.iload_n 1, 1) := by decide +kernel
theorem dX6_orderPut_23 : decode cX6_orderPut 23 = .ok (.iload_n 2, 1) := by decide +kernel
theorem dX6_orderPut_24 : decode cX6_orderPut 24 = .ok (.invokevirtual 95, 3) := by decide +kernel
theorem dX6_orderPut_27 : decode cX6_orderPut 27 = .ok (.iconst 1, 1) := by decide +kernel
theorem dX6_orderPut_28 : decode cX6_orderPut 28 = .ok (.ireturn, 1) := by decide +kernel
set_option maxRecDepth 200000 in
theorem ggX6_orderUnlabel_X4_labelIn : GoodIn wsX6_orderUnlabel wsX4_labelIn := goodIn_r _ [6, 7, 8, 17, 18, 19, 20, 21, 22] rfl (by decide +kernel)
set_option maxRecDepth 200000 in
theorem gX6_orderUnlabel_X4_labelIn : GoodIn wsX6_orderUnlabel (wsV RX6 112 RX4 yX4_labelIn wsX4_labelIn) := goodIn_app (goodIn_of _ (by decide +kernel)) ggX6_orderUnlabel_X4_labelIn
set_option maxRecDepth 200000 in
theorem ggX6_orderUnlabel_X4_putLabel : GoodIn wsX6_orderUnlabel wsX4_putLabel := goodIn_r _ [12, 7, 8, 17, 18, 19, 20, 21, 22] rfl (by decide +kernel)
set_option maxRecDepth 200000 in
theorem gX6_orderUnlabel_X4_putLabel : GoodIn wsX6_orderUnlabel (wsV RX6 95 RX4 yX4_putLabel wsX4_putLabel) := goodIn_app (goodIn_of _ (by decide +kernel)) ggX6_orderUnlabel_X4_putLabel
theorem dX6_orderUnlabel_0 : decode cX6_orderUnlabel 0 = .ok (.aload_n 0, 1) := by decide +kernel
theorem dX6_orderUnlabel_1 : decode cX6_orderUnlabel 1 = .ok (.getfield 10, 3) := by decide +kernel
theorem dX6_orderUnlabel_4 : decode cX6_orderUnlabel 4 = .ok (.iload_n 1, 1) := by decide +kernel
theorem dX6_orderUnlabel_5 : decode cX6_orderUnlabel 5 = .ok (.invokevirtual 112, 3) := by decide +kernel
theorem dX6_orderUnlabel_8 : decode cX6_orderUnlabel 8 = .ok (.iconst (-1), 1) := by decide +kernel
theorem dX6_orderUnlabel_9 : decode cX6_orderUnlabel 9 = .ok (.if_icmp .ne 5, 3) := by decide +kernel
theorem dX6_orderUnlabel_12 : decode cX6_orderUnlabel 12 = .ok (.iconst 0, 1) := by decide +kernel
theorem dX6_orderUnlabel_13 : decode cX6_orderUnlabel 13 = .ok (.ireturn, 1) := by decide +kernel
theorem dX6_orderUnlabel_14 : decode cX6_orderUnlabel 14 = .ok (.aload_n 0, 1) := by decide +kernel
theorem dX6_orderUnlabel_15 : decode cX6_orderUnlabel 15 = .ok (.getfield 10, 3) := by decide +kernel
theorem dX6_orderUnlabel_18 : decode cX6_orderUnlabel 18 = .ok (.iload_n 1, 1) := by decide +kernel
theorem dX6_orderUnlabel_19 : decode cX6_orderUnlabel 19 = .ok (.iconst (-1), 1) := by decide +kernel
theorem dX6_orderUnlabel_20 : decode cX6_orderUnlabel 20 = .ok (.invokevirtual 95, 3) := by decide +kernel
theorem dX6_orderUnlabel_23 : decode cX6_orderUnlabel 23 = .ok (.iconst 1, 1) := by decide +kernel
theorem dX6_orderUnlabel_24 : decode cX6_orderUnlabel 24 = .ok (.ireturn, 1) := by decide +kernel
set_option maxRecDepth 200000 in
theorem ggX6_requireLine_X4_hasLine : GoodIn wsX6_requireLine wsX4_hasLine := goodIn_r _ [8, 9, 14, 15, 16, 17, 18, 19] rfl (by decide +kernel)
set_option maxRecDepth 200000 in
theorem gX6_requireLine_X4_hasLine : GoodIn wsX6_requireLine (wsV RX6 202 RX4 yX4_hasLine wsX4_hasLine) := goodIn_app (goodIn_of _ (by decide +kernel)) ggX6_requireLine_X4_hasLine
theorem dX6_requireLine_0 : decode cX6_requireLine 0 = .ok (.aload_n 0, 1) := by decide +kernel
theorem dX6_requireLine_1 : decode cX6_requireLine 1 = .ok (.getfield 10, 3) := by decide +kernel
theorem dX6_requireLine_4 : decode cX6_requireLine 4 = .ok (.iload_n 1, 1) := by decide +kernel
theorem dX6_requireLine_5 : decode cX6_requireLine 5 = .ok (.invokevirtual 202, 3) := by decide +kernel
theorem dX6_requireLine_8 : decode cX6_requireLine 8 = .ok (.ifCond .ne 14, 3) := by decide +kernel
theorem dX6_requireLine_11 : decode cX6_requireLine 11 = .ok (.new 205, 3) := by decide +kernel
theorem dX6_requireLine_14 : decode cX6_requireLine 14 = .ok (.dup, 1) := by decide +kernel
theorem dX6_requireLine_15 : decode cX6_requireLine 15 = .ok (.ldc_w 297, 3) := by decide +kernel
theorem dX6_requireLine_18 : decode cX6_requireLine 18 = .ok (.invokespecial 209, 3) := by decide +kernel
theorem dX6_requireLine_21 : decode cX6_requireLine 21 = .ok (.athrow, 1) := by decide +kernel
theorem dX6_requireLine_22 : decode cX6_requireLine 22 = .ok (.return_, 1) := by decide +kernel
set_option maxRecDepth 200000 in
theorem ggX6_requireNumber_X4_hasNumber : GoodIn wsX6_requireNumber wsX4_hasNumber := goodIn_r _ [8, 9, 10, 15, 16, 17, 18, 19, 20] rfl (by decide +kernel)
set_option maxRecDepth 200000 in
theorem gX6_requireNumber_X4_hasNumber : GoodIn wsX6_requireNumber (wsV RX6 294 RX4 yX4_hasNumber wsX4_hasNumber) := goodIn_app (goodIn_of _ (by decide +kernel)) ggX6_requireNumber_X4_hasNumber
theorem dX6_requireNumber_0 : decode cX6_requireNumber 0 = .ok (.aload_n 0, 1) := by decide +kernel
theorem dX6_requireNumber_1 : decode cX6_requireNumber 1 = .ok (.getfield 10, 3) := by decide +kernel
theorem dX6_requireNumber_4 : decode cX6_requireNumber 4 = .ok (.iload_n 1, 1) := by decide +kernel
theorem dX6_requireNumber_5 : decode cX6_requireNumber 5 = .ok (.iload_n 2, 1) := by decide +kernel
theorem dX6_requireNumber_6 : decode cX6_requireNumber 6 = .ok (.invokevirtual 294, 3) := by decide +kernel
theorem dX6_requireNumber_9 : decode cX6_requireNumber 9 = .ok (.ifCond .ne 14, 3) := by decide +kernel
theorem dX6_requireNumber_12 : decode cX6_requireNumber 12 = .ok (.new 205, 3) := by decide +kernel
theorem dX6_requireNumber_15 : decode cX6_requireNumber 15 = .ok (.dup, 1) := by decide +kernel
theorem dX6_requireNumber_16 : decode cX6_requireNumber 16 = .ok (.ldc_w 299, 3) := by decide +kernel
theorem dX6_requireNumber_19 : decode cX6_requireNumber 19 = .ok (.invokespecial 209, 3) := by decide +kernel
theorem dX6_requireNumber_22 : decode cX6_requireNumber 22 = .ok (.athrow, 1) := by decide +kernel
theorem dX6_requireNumber_23 : decode cX6_requireNumber 23 = .ok (.return_, 1) := by decide +kernel
set_option maxRecDepth 200000 in
theorem ggX6_requirePoint_X6_isOnMap : GoodIn wsX6_requirePoint wsX6_isOnMap := goodIn_r _ [6] rfl (by decide +kernel)
set_option maxRecDepth 200000 in
theorem gX6_requirePoint_X6_isOnMap : GoodIn wsX6_requirePoint (va_wsS RX6 301 yX6_isOnMap wsX6_isOnMap) := goodIn_app (goodIn_of _ (by decide +kernel)) ggX6_requirePoint_X6_isOnMap
theorem dX6_requirePoint_0 : decode cX6_requirePoint 0 = .ok (.iload_n 0, 1) := by decide +kernel
theorem dX6_requirePoint_1 : decode cX6_requirePoint 1 = .ok (.invokestatic 301, 3) := by decide +kernel
theorem dX6_requirePoint_4 : decode cX6_requirePoint 4 = .ok (.ifCond .ne 14, 3) := by decide +kernel
theorem dX6_requirePoint_7 : decode cX6_requirePoint 7 = .ok (.new 205, 3) := by decide +kernel
theorem dX6_requirePoint_10 : decode cX6_requirePoint 10 = .ok (.dup, 1) := by decide +kernel
theorem dX6_requirePoint_11 : decode cX6_requirePoint 11 = .ok (.ldc_w 304, 3) := by decide +kernel
theorem dX6_requirePoint_14 : decode cX6_requirePoint 14 = .ok (.invokespecial 209, 3) := by decide +kernel
theorem dX6_requirePoint_17 : decode cX6_requirePoint 17 = .ok (.athrow, 1) := by decide +kernel
theorem dX6_requirePoint_18 : decode cX6_requirePoint 18 = .ok (.return_, 1) := by decide +kernel
theorem dX6_requireLevel_0 : decode cX6_requireLevel 0 = .ok (.iload_n 0, 1) := by decide +kernel
theorem dX6_requireLevel_1 : decode cX6_requireLevel 1 = .ok (.ifCond .lt 9, 3) := by decide +kernel
theorem dX6_requireLevel_4 : decode cX6_requireLevel 4 = .ok (.iload_n 0, 1) := by decide +kernel
theorem dX6_requireLevel_5 : decode cX6_requireLevel 5 = .ok (.bipush 99, 2) := by decide +kernel
theorem dX6_requireLevel_7 : decode cX6_requireLevel 7 = .ok (.if_icmp .le 14, 3) := by decide +kernel
theorem dX6_requireLevel_10 : decode cX6_requireLevel 10 = .ok (.new 129, 3) := by decide +kernel
theorem dX6_requireLevel_13 : decode cX6_requireLevel 13 = .ok (.dup, 1) := by decide +kernel
theorem dX6_requireLevel_14 : decode cX6_requireLevel 14 = .ok (.ldc_w 306, 3) := by decide +kernel
theorem dX6_requireLevel_17 : decode cX6_requireLevel 17 = .ok (.invokespecial 133, 3) := by decide +kernel
theorem dX6_requireLevel_20 : decode cX6_requireLevel 20 = .ok (.athrow, 1) := by decide +kernel
theorem dX6_requireLevel_21 : decode cX6_requireLevel 21 = .ok (.return_, 1) := by decide +kernel
set_option maxRecDepth 200000 in
theorem ggX6_requireDirection_X6_isDirection : GoodIn wsX6_requireDirection wsX6_isDirection := goodIn_r _ [6] rfl (by decide +kernel)
set_option maxRecDepth 200000 in
theorem gX6_requireDirection_X6_isDirection : GoodIn wsX6_requireDirection (va_wsS RX6 308 yX6_isDirection wsX6_isDirection) := goodIn_app (goodIn_of _ (by decide +kernel)) ggX6_requireDirection_X6_isDirection
theorem dX6_requireDirection_0 : decode cX6_requireDirection 0 = .ok (.iload_n 0, 1) := by decide +kernel
theorem dX6_requireDirection_1 : decode cX6_requireDirection 1 = .ok (.invokestatic 308, 3) := by decide +kernel
theorem dX6_requireDirection_4 : decode cX6_requireDirection 4 = .ok (.ifCond .ne 14, 3) := by decide +kernel
theorem dX6_requireDirection_7 : decode cX6_requireDirection 7 = .ok (.new 129, 3) := by decide +kernel
theorem dX6_requireDirection_10 : decode cX6_requireDirection 10 = .ok (.dup, 1) := by decide +kernel
theorem dX6_requireDirection_11 : decode cX6_requireDirection 11 = .ok (.ldc_w 311, 3) := by decide +kernel
theorem dX6_requireDirection_14 : decode cX6_requireDirection 14 = .ok (.invokespecial 133, 3) := by decide +kernel
theorem dX6_requireDirection_17 : decode cX6_requireDirection 17 = .ok (.athrow, 1) := by decide +kernel
theorem dX6_requireDirection_18 : decode cX6_requireDirection 18 = .ok (.return_, 1) := by decide +kernel
theorem dX6_isOnMap_0 : decode cX6_isOnMap 0 = .ok (.iload_n 0, 1) := by decide +kernel
theorem dX6_isOnMap_1 : decode cX6_isOnMap 1 = .ok (.ifCond .lt 14, 3) := by decide +kernel
theorem dX6_isOnMap_4 : decode cX6_isOnMap 4 = .ok (.iload_n 0, 1) := by decide +kernel
theorem dX6_isOnMap_5 : decode cX6_isOnMap 5 = .ok (.sipush 384, 3) := by decide +kernel
theorem dX6_isOnMap_8 : decode cX6_isOnMap 8 = .ok (.if_icmp .ge 7, 3) := by decide +kernel
theorem dX6_isOnMap_11 : decode cX6_isOnMap 11 = .ok (.iconst 1, 1) := by decide +kernel
theorem dX6_isOnMap_12 : decode cX6_isOnMap 12 = .ok (.goto 4, 3) := by decide +kernel
theorem dX6_isOnMap_15 : decode cX6_isOnMap 15 = .ok (.iconst 0, 1) := by decide +kernel
theorem dX6_isOnMap_16 : decode cX6_isOnMap 16 = .ok (.ireturn, 1) := by decide +kernel
theorem dX6_isDirection_0 : decode cX6_isDirection 0 = .ok (.iload_n 0, 1) := by decide +kernel
theorem dX6_isDirection_1 : decode cX6_isDirection 1 = .ok (.ifCond .lt 13, 3) := by decide +kernel
theorem dX6_isDirection_4 : decode cX6_isDirection 4 = .ok (.iload_n 0, 1) := by decide +kernel
theorem dX6_isDirection_5 : decode cX6_isDirection 5 = .ok (.bipush 8, 2) := by decide +kernel
theorem dX6_isDirection_7 : decode cX6_isDirection 7 = .ok (.if_icmp .ge 7, 3) := by decide +kernel
theorem dX6_isDirection_10 : decode cX6_isDirection 10 = .ok (.iconst 1, 1) := by decide +kernel
theorem dX6_isDirection_11 : decode cX6_isDirection 11 = .ok (.goto 4, 3) := by decide +kernel
theorem dX6_isDirection_14 : decode cX6_isDirection 14 = .ok (.iconst 0, 1) := by decide +kernel
theorem dX6_isDirection_15 : decode cX6_isDirection 15 = .ok (.ireturn, 1) := by decide +kernel
theorem dX6_isSlanting_0 : decode cX6_isSlanting 0 = .ok (.iload_n 0, 1) := by decide +kernel
theorem dX6_isSlanting_1 : decode cX6_isSlanting 1 = .ok (.iconst 1, 1) := by decide +kernel
theorem dX6_isSlanting_2 : decode cX6_isSlanting 2 = .ok (.iand, 1) := by decide +kernel
theorem dX6_isSlanting_3 : decode cX6_isSlanting 3 = .ok (.ifCond .eq 7, 3) := by decide +kernel
theorem dX6_isSlanting_6 : decode cX6_isSlanting 6 = .ok (.iconst 1, 1) := by decide +kernel
theorem dX6_isSlanting_7 : decode cX6_isSlanting 7 = .ok (.goto 4, 3) := by decide +kernel
theorem dX6_isSlanting_10 : decode cX6_isSlanting 10 = .ok (.iconst 0, 1) := by decide +kernel
theorem dX6_isSlanting_11 : decode cX6_isSlanting 11 = .ok (.ireturn, 1) := by decide +kernel
theorem dX6_columnOf_0 : decode cX6_columnOf 0 = .ok (.iload_n 0, 1) := by decide +kernel
theorem dX6_columnOf_1 : decode cX6_columnOf 1 = .ok (.bipush 24, 2) := by decide +kernel
theorem dX6_columnOf_3 : decode cX6_columnOf 3 = .ok (.irem, 1) := by decide +kernel
theorem dX6_columnOf_4 : decode cX6_columnOf 4 = .ok (.ireturn, 1) := by decide +kernel
theorem dX6_rowOf_0 : decode cX6_rowOf 0 = .ok (.iload_n 0, 1) := by decide +kernel
theorem dX6_rowOf_1 : decode cX6_rowOf 1 = .ok (.bipush 24, 2) := by decide +kernel
theorem dX6_rowOf_3 : decode cX6_rowOf 3 = .ok (.idiv, 1) := by decide +kernel
theorem dX6_rowOf_4 : decode cX6_rowOf 4 = .ok (.ireturn, 1) := by decide +kernel
set_option maxRecDepth 200000 in
theorem ggX6_pointBeside_X6_isOnMap : GoodIn wsX6_pointBeside wsX6_isOnMap := goodIn_r _ [6] rfl (by decide +kernel)
set_option maxRecDepth 200000 in
theorem gX6_pointBeside_X6_isOnMap : GoodIn wsX6_pointBeside (va_wsS RX6 301 yX6_isOnMap wsX6_isOnMap) := goodIn_app (goodIn_of _ (by decide +kernel)) ggX6_pointBeside_X6_isOnMap
set_option maxRecDepth 200000 in
theorem ggX6_pointBeside_X6_isDirection : GoodIn wsX6_pointBeside wsX6_isDirection := goodIn_r _ [9] rfl (by decide +kernel)
set_option maxRecDepth 200000 in
theorem gX6_pointBeside_X6_isDirection : GoodIn wsX6_pointBeside (va_wsS RX6 308 yX6_isDirection wsX6_isDirection) := goodIn_app (goodIn_of _ (by decide +kernel)) ggX6_pointBeside_X6_isDirection
set_option maxRecDepth 200000 in
theorem ggX6_pointBeside_X6_columnOf : GoodIn wsX6_pointBeside wsX6_columnOf := goodIn_r _ [12] rfl (by decide +kernel)
set_option maxRecDepth 200000 in
theorem gX6_pointBeside_X6_columnOf : GoodIn wsX6_pointBeside (va_wsS RX6 313 yX6_columnOf wsX6_columnOf) := goodIn_app (goodIn_of _ (by decide +kernel)) ggX6_pointBeside_X6_columnOf
set_option maxRecDepth 200000 in
theorem ggX6_pointBeside_X6_rowOf : GoodIn wsX6_pointBeside wsX6_rowOf := goodIn_r _ [15] rfl (by decide +kernel)
set_option maxRecDepth 200000 in
theorem gX6_pointBeside_X6_rowOf : GoodIn wsX6_pointBeside (va_wsS RX6 320 yX6_rowOf wsX6_rowOf) := goodIn_app (goodIn_of _ (by decide +kernel)) ggX6_pointBeside_X6_rowOf
theorem dX6_pointBeside_0 : decode cX6_pointBeside 0 = .ok (.iload_n 0, 1) := by decide +kernel
theorem dX6_pointBeside_1 : decode cX6_pointBeside 1 = .ok (.invokestatic 301, 3) := by decide +kernel
theorem dX6_pointBeside_4 : decode cX6_pointBeside 4 = .ok (.ifCond .eq 10, 3) := by decide +kernel
theorem dX6_pointBeside_7 : decode cX6_pointBeside 7 = .ok (.iload_n 1, 1) := by decide +kernel
theorem dX6_pointBeside_8 : decode cX6_pointBeside 8 = .ok (.invokestatic 308, 3) := by decide +kernel
theorem dX6_pointBeside_11 : decode cX6_pointBeside 11 = .ok (.ifCond .ne 5, 3) := by decide +kernel
theorem dX6_pointBeside_14 : decode cX6_pointBeside 14 = .ok (.iconst (-1), 1) := by decide +kernel
theorem dX6_pointBeside_15 : decode cX6_pointBeside 15 = .ok (.ireturn, 1) := by decide +kernel
theorem dX6_pointBeside_16 : decode cX6_pointBeside 16 = .ok (.iload_n 0, 1) := by decide +kernel
theorem dX6_pointBeside_17 : decode cX6_pointBeside 17 = .ok (.invokestatic 313, 3) := by decide +kernel
theorem dX6_pointBeside_20 : decode cX6_pointBeside 20 = .ok (.getstatic 316, 3) := by decide +kernel
theorem dX6_pointBeside_23 : decode cX6_pointBeside 23 = .ok (.iload_n 1, 1) := by decide +kernel
theorem dX6_pointBeside_24 : decode cX6_pointBeside 24 = .ok (.iaload, 1) := by decide +kernel
theorem dX6_pointBeside_25 : decode cX6_pointBeside 25 = .ok (.iadd, 1) := by decide +kernel
theorem dX6_pointBeside_26 : decode cX6_pointBeside 26 = .ok (.istore_n 2, 1) := by decide +kernel
theorem dX6_pointBeside_27 : decode cX6_pointBeside 27 = .ok (.iload_n 0, 1) := by decide +kernel
theorem dX6_pointBeside_28 : decode cX6_pointBeside 28 = .ok (.invokestatic 320, 3) := by decide +kernel
theorem dX6_pointBeside_31 : decode cX6_pointBeside 31 = .ok (.getstatic 323, 3) := by decide +kernel
theorem dX6_pointBeside_34 : decode cX6_pointBeside 34 = .ok (.iload_n 1, 1) := by decide +kernel
theorem dX6_pointBeside_35 : decode cX6_pointBeside 35 = .ok (.iaload, 1) := by decide +kernel
theorem dX6_pointBeside_36 : decode cX6_pointBeside 36 = .ok (.iadd, 1) := by decide +kernel
theorem dX6_pointBeside_37 : decode cX6_pointBeside 37 = .ok (.istore_n 3, 1) := by decide +kernel
theorem dX6_pointBeside_38 : decode cX6_pointBeside 38 = .ok (.iload_n 2, 1) := by decide +kernel
theorem dX6_pointBeside_39 : decode cX6_pointBeside 39 = .ok (.ifCond .lt 19, 3) := by decide +kernel
theorem dX6_pointBeside_42 : decode cX6_pointBeside 42 = .ok (.iload_n 2, 1) := by decide +kernel
theorem dX6_pointBeside_43 : decode cX6_pointBeside 43 = .ok (.bipush 24, 2) := by decide +kernel
theorem dX6_pointBeside_45 : decode cX6_pointBeside 45 = .ok (.if_icmp .ge 13, 3) := by decide +kernel
theorem dX6_pointBeside_48 : decode cX6_pointBeside 48 = .ok (.iload_n 3, 1) := by decide +kernel
theorem dX6_pointBeside_49 : decode cX6_pointBeside 49 = .ok (.ifCond .lt 9, 3) := by decide +kernel
theorem dX6_pointBeside_52 : decode cX6_pointBeside 52 = .ok (.iload_n 3, 1) := by decide +kernel
theorem dX6_pointBeside_53 : decode cX6_pointBeside 53 = .ok (.bipush 16, 2) := by decide +kernel
theorem dX6_pointBeside_55 : decode cX6_pointBeside 55 = .ok (.if_icmp .lt 5, 3) := by decide +kernel
theorem dX6_pointBeside_58 : decode cX6_pointBeside 58 = .ok (.iconst (-1), 1) := by decide +kernel
theorem dX6_pointBeside_59 : decode cX6_pointBeside 59 = .ok (.ireturn, 1) := by decide +kernel
theorem dX6_pointBeside_60 : decode cX6_pointBeside 60 = .ok (.bipush 24, 2) := by decide +kernel
theorem dX6_pointBeside_62 : decode cX6_pointBeside 62 = .ok (.iload_n 3, 1) := by decide +kernel
theorem dX6_pointBeside_63 : decode cX6_pointBeside 63 = .ok (.imul, 1) := by decide +kernel
theorem dX6_pointBeside_64 : decode cX6_pointBeside 64 = .ok (.iload_n 2, 1) := by decide +kernel
theorem dX6_pointBeside_65 : decode cX6_pointBeside 65 = .ok (.iadd, 1) := by decide +kernel
theorem dX6_pointBeside_66 : decode cX6_pointBeside 66 = .ok (.ireturn, 1) := by decide +kernel
set_option maxRecDepth 200000 in
theorem ggX6_distance_X6_columnOf : GoodIn wsX6_distance wsX6_columnOf := goodIn_r _ [11] rfl (by decide +kernel)
set_option maxRecDepth 200000 in
theorem gX6_distance_X6_columnOf : GoodIn wsX6_distance (va_wsS RX6 313 yX6_columnOf wsX6_columnOf) := goodIn_app (goodIn_of _ (by decide +kernel)) ggX6_distance_X6_columnOf
set_option maxRecDepth 200000 in
theorem ggX6_distance_X6_rowOf : GoodIn wsX6_distance wsX6_rowOf := goodIn_r _ [14] rfl (by decide +kernel)
set_option maxRecDepth 200000 in
theorem gX6_distance_X6_rowOf : GoodIn wsX6_distance (va_wsS RX6 320 yX6_rowOf wsX6_rowOf) := goodIn_app (goodIn_of _ (by decide +kernel)) ggX6_distance_X6_rowOf
theorem dX6_distance_0 : decode cX6_distance 0 = .ok (.iload_n 0, 1) := by decide +kernel
theorem dX6_distance_1 : decode cX6_distance 1 = .ok (.invokestatic 313, 3) := by decide +kernel
theorem dX6_distance_4 : decode cX6_distance 4 = .ok (.iload_n 1, 1) := by decide +kernel
theorem dX6_distance_5 : decode cX6_distance 5 = .ok (.invokestatic 313, 3) := by decide +kernel
theorem dX6_distance_8 : decode cX6_distance 8 = .ok (.isub, 1) := by decide +kernel
theorem dX6_distance_9 : decode cX6_distance 9 = .ok (.invokestatic 197, 3) := by decide +kernel
theorem dX6_distance_12 : decode cX6_distance 12 = .ok (.istore_n 2, 1) := by decide +kernel
theorem dX6_distance_13 : decode cX6_distance 13 = .ok (.iload_n 0, 1) := by decide +kernel
theorem dX6_distance_14 : decode cX6_distance 14 = .ok (.invokestatic 320, 3) := by decide +kernel
theorem dX6_distance_17 : decode cX6_distance 17 = .ok (.iload_n 1, 1) := by decide +kernel
theorem dX6_distance_18 : decode cX6_distance 18 = .ok (.invokestatic 320, 3) := by decide +kernel
theorem dX6_distance_21 : decode cX6_distance 21 = .ok (.isub, 1) := by decide +kernel
theorem dX6_distance_22 : decode cX6_distance 22 = .ok (.invokestatic 197, 3) := by decide +kernel
theorem dX6_distance_25 : decode cX6_distance 25 = .ok (.istore_n 3, 1) := by decide +kernel
theorem dX6_distance_26 : decode cX6_distance 26 = .ok (.iload_n 2, 1) := by decide +kernel
theorem dX6_distance_27 : decode cX6_distance 27 = .ok (.iload_n 3, 1) := by decide +kernel
theorem dX6_distance_28 : decode cX6_distance 28 = .ok (.invokestatic 326, 3) := by decide +kernel
theorem dX6_distance_31 : decode cX6_distance 31 = .ok (.ireturn, 1) := by decide +kernel
theorem dX6_slantingLength_0 : decode cX6_slantingLength 0 = .ok (.ldc2_w 329, 3) := by decide +kernel
theorem dX6_slantingLength_3 : decode cX6_slantingLength 3 = .ok (.dreturn, 1) := by decide +kernel
theorem dX7_init_0 : decode cX7_init 0 = .ok (.aload_n 0, 1) := by decide +kernel
theorem dX7_init_1 : decode cX7_init 1 = .ok (.invokespecial 1, 3) := by decide +kernel
theorem dX7_init_4 : decode cX7_init 4 = .ok (.aload_n 0, 1) := by decide +kernel
theorem dX7_init_5 : decode cX7_init 5 = .ok (.sipush 514, 3) := by decide +kernel
theorem dX7_init_8 : decode cX7_init 8 = .ok (.newarray .int, 2) := by decide +kernel
theorem dX7_init_10 : decode cX7_init 10 = .ok (.putfield 7, 3) := by decide +kernel
theorem dX7_init_13 : decode cX7_init 13 = .ok (.aload_n 0, 1) := by decide +kernel
theorem dX7_init_14 : decode cX7_init 14 = .ok (.sipush 2570, 3) := by decide +kernel
theorem dX7_init_17 : decode cX7_init 17 = .ok (.newarray .int, 2) := by decide +kernel
theorem dX7_init_19 : decode cX7_init 19 = .ok (.putfield 13, 3) := by decide +kernel
theorem dX7_init_22 : decode cX7_init 22 = .ok (.aload_n 0, 1) := by decide +kernel
theorem dX7_init_23 : decode cX7_init 23 = .ok (.sipush 514, 3) := by decide +kernel
theorem dX7_init_26 : decode cX7_init 26 = .ok (.newarray .int, 2) := by decide +kernel
theorem dX7_init_28 : decode cX7_init 28 = .ok (.putfield 16, 3) := by decide +kernel
theorem dX7_init_31 : decode cX7_init 31 = .ok (.aload_n 0, 1) := by decide +kernel
theorem dX7_init_32 : decode cX7_init 32 = .ok (.bipush 60, 2) := by decide +kernel
theorem dX7_init_34 : decode cX7_init 34 = .ok (.newarray .int, 2) := by decide +kernel
theorem dX7_init_36 : decode cX7_init 36 = .ok (.putfield 19, 3) := by decide +kernel
theorem dX7_init_39 : decode cX7_init 39 = .ok (.aload_n 0, 1) := by decide +kernel
theorem dX7_init_40 : decode cX7_init 40 = .ok (.getfield 7, 3) := by decide +kernel
theorem dX7_init_43 : decode cX7_init 43 = .ok (.iconst 1, 1) := by decide +kernel
theorem dX7_init_44 : decode cX7_init 44 = .ok (.iconst 2, 1) := by decide +kernel
theorem dX7_init_45 : decode cX7_init 45 = .ok (.iastore, 1) := by decide +kernel
theorem dX7_init_46 : decode cX7_init 46 = .ok (.return_, 1) := by decide +kernel
theorem dX7_thrown_0 : decode cX7_thrown 0 = .ok (.aload_n 0, 1) := by decide +kernel
theorem dX7_thrown_1 : decode cX7_thrown 1 = .ok (.getfield 22, 3) := by decide +kernel
theorem dX7_thrown_4 : decode cX7_thrown 4 = .ok (.ireturn, 1) := by decide +kernel
theorem dX7_fails_0 : decode cX7_fails 0 = .ok (.aload_n 0, 1) := by decide +kernel
theorem dX7_fails_1 : decode cX7_fails 1 = .ok (.iload_n 1, 1) := by decide +kernel
theorem dX7_fails_2 : decode cX7_fails 2 = .ok (.putfield 22, 3) := by decide +kernel
theorem dX7_fails_5 : decode cX7_fails 5 = .ok (.iconst 0, 1) := by decide +kernel
theorem dX7_fails_6 : decode cX7_fails 6 = .ok (.ireturn, 1) := by decide +kernel
theorem dX7_in_0 : decode cX7_in 0 = .ok (.iload_n 0, 1) := by decide +kernel
theorem dX7_in_1 : decode cX7_in 1 = .ok (.iload_n 1, 1) := by decide +kernel
theorem dX7_in_2 : decode cX7_in 2 = .ok (.if_icmp .lt 12, 3) := by decide +kernel
theorem dX7_in_5 : decode cX7_in 5 = .ok (.iload_n 0, 1) := by decide +kernel
theorem dX7_in_6 : decode cX7_in 6 = .ok (.iload_n 2, 1) := by decide +kernel
theorem dX7_in_7 : decode cX7_in 7 = .ok (.if_icmp .gt 7, 3) := by decide +kernel
theorem dX7_in_10 : decode cX7_in 10 = .ok (.iconst 1, 1) := by decide +kernel
theorem dX7_in_11 : decode cX7_in 11 = .ok (.goto 4, 3) := by decide +kernel
theorem dX7_in_14 : decode cX7_in 14 = .ok (.iconst 0, 1) := by decide +kernel
theorem dX7_in_15 : decode cX7_in 15 = .ok (.ireturn, 1) := by decide +kernel
theorem dX7_apart_0 : decode cX7_apart 0 = .ok (.iload_n 0, 1) := by decide +kernel
theorem dX7_apart_1 : decode cX7_apart 1 = .ok (.iload_n 1, 1) := by decide +kernel
theorem dX7_apart_2 : decode cX7_apart 2 = .ok (.if_icmp .ge 9, 3) := by decide +kernel
theorem dX7_apart_5 : decode cX7_apart 5 = .ok (.iload_n 1, 1) := by decide +kernel
theorem dX7_apart_6 : decode cX7_apart 6 = .ok (.iload_n 0, 1) := by decide +kernel
theorem dX7_apart_7 : decode cX7_apart 7 = .ok (.isub, 1) := by decide +kernel
theorem dX7_apart_8 : decode cX7_apart 8 = .ok (.goto 6, 3) := by decide +kernel
theorem dX7_apart_11 : decode cX7_apart 11 = .ok (.iload_n 0, 1) := by decide +kernel
theorem dX7_apart_12 : decode cX7_apart 12 = .ok (.iload_n 1, 1) := by decide +kernel
theorem dX7_apart_13 : decode cX7_apart 13 = .ok (.isub, 1) := by decide +kernel
theorem dX7_apart_14 : decode cX7_apart 14 = .ok (.ireturn, 1) := by decide +kernel
set_option maxRecDepth 200000 in
theorem ggX7_isLine_X7_in : GoodIn wsX7_isLine wsX7_in := goodIn_r _ [5] rfl (by decide +kernel)
set_option maxRecDepth 200000 in
theorem gX7_isLine_X7_in : GoodIn wsX7_isLine (va_wsS RX7 26 yX7_in wsX7_in) := goodIn_app (goodIn_of _ (by decide +kernel)) ggX7_isLine_X7_in
theorem dX7_isLine_0 : decode cX7_isLine 0 = .ok (.iload_n 1, 1) := by decide +kernel
theorem dX7_isLine_1 : decode cX7_isLine 1 = .ok (.iconst 0, 1) := by decide +kernel
theorem dX7_isLine_2 : decode cX7_isLine 2 = .ok (.aload_n 0, 1) := by decide +kernel
theorem dX7_isLine_3 : decode cX7_isLine 3 = .ok (.getfield 7, 3) := by decide +kernel
theorem dX7_isLine_6 : decode cX7_isLine 6 = .ok (.iconst 0, 1) := by decide +kernel
theorem dX7_isLine_7 : decode cX7_isLine 7 = .ok (.iaload, 1) := by decide +kernel
theorem dX7_isLine_8 : decode cX7_isLine 8 = .ok (.iconst 1, 1) := by decide +kernel
theorem dX7_isLine_9 : decode cX7_isLine 9 = .ok (.isub, 1) := by decide +kernel
theorem dX7_isLine_10 : decode cX7_isLine 10 = .ok (.invokestatic 26, 3) := by decide +kernel
theorem dX7_isLine_13 : decode cX7_isLine 13 = .ok (.ireturn, 1) := by decide +kernel
set_option maxRecDepth 200000 in
theorem ggX7_isPoint_X7_in : GoodIn wsX7_isPoint wsX7_in := goodIn_r _ [4] rfl (by decide +kernel)
set_option maxRecDepth 200000 in
theorem gX7_isPoint_X7_in : GoodIn wsX7_isPoint (va_wsS RX7 26 yX7_in wsX7_in) := goodIn_app (goodIn_of _ (by decide +kernel)) ggX7_isPoint_X7_in
theorem dX7_isPoint_0 : decode cX7_isPoint 0 = .ok (.iload_n 0, 1) := by decide +kernel
theorem dX7_isPoint_1 : decode cX7_isPoint 1 = .ok (.iconst 0, 1) := by decide +kernel
theorem dX7_isPoint_2 : decode cX7_isPoint 2 = .ok (.sipush 383, 3) := by decide +kernel
theorem dX7_isPoint_5 : decode cX7_isPoint 5 = .ok (.invokestatic 26, 3) := by decide +kernel
theorem dX7_isPoint_8 : decode cX7_isPoint 8 = .ok (.ireturn, 1) := by decide +kernel
theorem dX7_of_0 : decode cX7_of 0 = .ok (.aload_n 0, 1) := by decide +kernel
theorem dX7_of_1 : decode cX7_of 1 = .ok (.getfield 7, 3) := by decide +kernel
theorem dX7_of_4 : decode cX7_of 4 = .ok (.iconst 2, 1) := by decide +kernel
theorem dX7_of_5 : decode cX7_of 5 = .ok (.bipush 64, 2) := by decide +kernel
theorem dX7_of_7 : decode cX7_of 7 = .ok (.iload_n 1, 1) := by decide +kernel
theorem dX7_of_8 : decode cX7_of 8 = .ok (.imul, 1) := by decide +kernel
theorem dX7_of_9 : decode cX7_of 9 = .ok (.iadd, 1) := by decide +kernel
theorem dX7_of_10 : decode cX7_of 10 = .ok (.iload_n 2, 1) := by decide +kernel
theorem dX7_of_11 : decode cX7_of 11 = .ok (.iadd, 1) := by decide +kernel
theorem dX7_of_12 : decode cX7_of 12 = .ok (.iaload, 1) := by decide +kernel
theorem dX7_of_13 : decode cX7_of 13 = .ok (.ireturn, 1) := by decide +kernel
theorem dX7_puts_0 : decode cX7_puts 0 = .ok (.aload_n 0, 1) := by decide +kernel
theorem dX7_puts_1 : decode cX7_puts 1 = .ok (.getfield 7, 3) := by decide +kernel
theorem dX7_puts_4 : decode cX7_puts 4 = .ok (.iconst 2, 1) := by decide +kernel
theorem dX7_puts_5 : decode cX7_puts 5 = .ok (.bipush 64, 2) := by decide +kernel
theorem dX7_puts_7 : decode cX7_puts 7 = .ok (.iload_n 1, 1) := by decide +kernel
theorem dX7_puts_8 : decode cX7_puts 8 = .ok (.imul, 1) := by decide +kernel
theorem dX7_puts_9 : decode cX7_puts 9 = .ok (.iadd, 1) := by decide +kernel
theorem dX7_puts_10 : decode cX7_puts 10 = .ok (.iload_n 2, 1) := by decide +kernel
theorem dX7_puts_11 : decode cX7_puts 11 = .ok (.iadd, 1) := by decide +kernel
theorem dX7_puts_12 : decode cX7_puts 12 = .ok (.iload_n 3, 1) := by decide +kernel
theorem dX7_puts_13 : decode cX7_puts 13 = .ok (.iastore, 1) := by decide +kernel
theorem dX7_puts_14 : decode cX7_puts 14 = .ok (.return_, 1) := by decide +kernel
theorem dX7_across_0 : decode cX7_across 0 = .ok (.iload_n 0, 1) := by decide +kernel
theorem dX7_across_1 : decode cX7_across 1 = .ok (.iconst 2, 1) := by decide +kernel
theorem dX7_across_2 : decode cX7_across 2 = .ok (.if_icmp .lt 9, 3) := by decide +kernel
theorem dX7_across_5 : decode cX7_across 5 = .ok (.iload_n 0, 1) := by decide +kernel
theorem dX7_across_6 : decode cX7_across 6 = .ok (.bipush 7, 2) := by decide +kernel
theorem dX7_across_8 : decode cX7_across 8 = .ok (.if_icmp .ne 7, 3) := by decide +kernel
theorem dX7_across_11 : decode cX7_across 11 = .ok (.iconst 1, 1) := by decide +kernel
theorem dX7_across_12 : decode cX7_across 12 = .ok (.goto 19, 3) := by decide +kernel
theorem dX7_across_15 : decode cX7_across 15 = .ok (.iload_n 0, 1) := by decide +kernel
theorem dX7_across_16 : decode cX7_across 16 = .ok (.iconst 2, 1) := by decide +kernel
theorem dX7_across_17 : decode cX7_across 17 = .ok (.if_icmp .eq 9, 3) := by decide +kernel
theorem dX7_across_20 : decode cX7_across 20 = .ok (.iload_n 0, 1) := by decide +kernel
theorem dX7_across_21 : decode cX7_across 21 = .ok (.bipush 6, 2) := by decide +kernel
theorem dX7_across_23 : decode cX7_across 23 = .ok (.if_icmp .ne 7, 3) := by decide +kernel
theorem dX7_across_26 : decode cX7_across 26 = .ok (.iconst 0, 1) := by decide +kernel
theorem dX7_across_27 : decode cX7_across 27 = .ok (.goto 4, 3) := by decide +kernel
theorem dX7_across_30 : decode cX7_across 30 = .ok (.iconst (-1), 1) := by decide +kernel
theorem dX7_across_31 : decode cX7_across 31 = .ok (.ireturn, 1) := by decide +kernel
set_option maxRecDepth 200000 in
theorem ggX7_down_X7_in : GoodIn wsX7_down wsX7_in := goodIn_r _ [4] rfl (by decide +kernel)
set_option maxRecDepth 200000 in
theorem gX7_down_X7_in : GoodIn wsX7_down (va_wsS RX7 26 yX7_in wsX7_in) := goodIn_app (goodIn_of _ (by decide +kernel)) ggX7_down_X7_in
theorem dX7_down_0 : decode cX7_down 0 = .ok (.iload_n 0, 1) := by decide +kernel
theorem dX7_down_1 : decode cX7_down 1 = .ok (.iconst 1, 1) := by decide +kernel
theorem dX7_down_2 : decode cX7_down 2 = .ok (.iconst 3, 1) := by decide +kernel
theorem dX7_down_3 : decode cX7_down 3 = .ok (.invokestatic 26, 3) := by decide +kernel
theorem dX7_down_6 : decode cX7_down 6 = .ok (.ifCond .eq 7, 3) := by decide +kernel
theorem dX7_down_9 : decode cX7_down 9 = .ok (.iconst 1, 1) := by decide +kernel
theorem dX7_down_10 : decode cX7_down 10 = .ok (.goto 13, 3) := by decide +kernel
theorem dX7_down_13 : decode cX7_down 13 = .ok (.iload_n 0, 1) := by decide +kernel
theorem dX7_down_14 : decode cX7_down 14 = .ok (.iconst 4, 1) := by decide +kernel
theorem dX7_down_15 : decode cX7_down 15 = .ok (.if_icmp .le 7, 3) := by decide +kernel
theorem dX7_down_18 : decode cX7_down 18 = .ok (.iconst (-1), 1) := by decide +kernel
theorem dX7_down_19 : decode cX7_down 19 = .ok (.goto 4, 3) := by decide +kernel
theorem dX7_down_22 : decode cX7_down 22 = .ok (.iconst 0, 1) := by decide +kernel
theorem dX7_down_23 : decode cX7_down 23 = .ok (.ireturn, 1) := by decide +kernel
set_option maxRecDepth 200000 in
theorem ggX7_next_X7_across : GoodIn wsX7_next wsX7_across := goodIn_r _ [4] rfl (by decide +kernel)
set_option maxRecDepth 200000 in
theorem gX7_next_X7_across : GoodIn wsX7_next (va_wsS RX7 30 yX7_across wsX7_across) := goodIn_app (goodIn_of _ (by decide +kernel)) ggX7_next_X7_across
set_option maxRecDepth 200000 in
theorem ggX7_next_X7_down : GoodIn wsX7_next wsX7_down := goodIn_r _ [7, 8, 9, 3, 10] rfl (by decide +kernel)
set_option maxRecDepth 200000 in
theorem gX7_next_X7_down : GoodIn wsX7_next (va_wsS RX7 34 yX7_down wsX7_down) := goodIn_app (goodIn_of _ (by decide +kernel)) ggX7_next_X7_down
set_option maxRecDepth 200000 in
theorem ggX7_next_X7_in : GoodIn wsX7_next wsX7_in := goodIn_r _ [10] rfl (by decide +kernel)
set_option maxRecDepth 200000 in
theorem gX7_next_X7_in : GoodIn wsX7_next (va_wsS RX7 26 yX7_in wsX7_in) := goodIn_app (goodIn_of _ (by decide +kernel)) ggX7_next_X7_in
theorem dX7_next_0 : decode cX7_next 0 = .ok (.iload_n 0, 1) := by decide +kernel
theorem dX7_next_1 : decode cX7_next 1 = .ok (.bipush 24, 2) := by decide +kernel
theorem dX7_next_3 : decode cX7_next 3 = .ok (.irem, 1) := by decide +kernel
theorem dX7_next_4 : decode cX7_next 4 = .ok (.iload_n 1, 1) := by decide +kernel
theorem dX7_next_5 : decode cX7_next 5 = .ok (.invokestatic 30, 3) := by decide +kernel
theorem dX7_next_8 : decode cX7_next 8 = .ok (.iadd, 1) := by decide +kernel
theorem dX7_next_9 : decode cX7_next 9 = .ok (.istore_n 2, 1) := by decide +kernel
theorem dX7_next_10 : decode cX7_next 10 = .ok (.iload_n 0, 1) := by decide +kernel
theorem dX7_next_11 : decode cX7_next 11 = .ok (.bipush 24, 2) := by decide +kernel
theorem dX7_next_13 : decode cX7_next 13 = .ok (.idiv, 1) := by decide +kernel
theorem dX7_next_14 : decode cX7_next 14 = .ok (.iload_n 1, 1) := by decide +kernel
theorem dX7_next_15 : decode cX7_next 15 = .ok (.invokestatic 34, 3) := by decide +kernel
theorem dX7_next_18 : decode cX7_next 18 = .ok (.iadd, 1) := by decide +kernel
theorem dX7_next_19 : decode cX7_next 19 = .ok (.istore_n 3, 1) := by decide +kernel
theorem dX7_next_20 : decode cX7_next 20 = .ok (.iload_n 2, 1) := by decide +kernel
theorem dX7_next_21 : decode cX7_next 21 = .ok (.iconst 0, 1) := by decide +kernel
theorem dX7_next_22 : decode cX7_next 22 = .ok (.bipush 23, 2) := by decide +kernel
theorem dX7_next_24 : decode cX7_next 24 = .ok (.invokestatic 26, 3) := by decide +kernel
theorem dX7_next_27 : decode cX7_next 27 = .ok (.ifCond .eq 22, 3) := by decide +kernel
theorem dX7_next_30 : decode cX7_next 30 = .ok (.iload_n 3, 1) := by decide +kernel
theorem dX7_next_31 : decode cX7_next 31 = .ok (.iconst 0, 1) := by decide +kernel
theorem dX7_next_32 : decode cX7_next 32 = .ok (.bipush 15, 2) := by decide +kernel
theorem dX7_next_34 : decode cX7_next 34 = .ok (.invokestatic 26, 3) := by decide +kernel
theorem dX7_next_37 : decode cX7_next 37 = .ok (.ifCond .eq 12, 3) := by decide +kernel
theorem dX7_next_40 : decode cX7_next 40 = .ok (.bipush 24, 2) := by decide +kernel
theorem dX7_next_42 : decode cX7_next 42 = .ok (.iload_n 3, 1) := by decide +kernel
theorem dX7_next_43 : decode cX7_next 43 = .ok (.imul, 1) := by decide +kernel
theorem dX7_next_44 : decode cX7_next 44 = .ok (.iload_n 2, 1) := by decide +kernel
theorem dX7_next_45 : decode cX7_next 45 = .ok (.iadd, 1) := by decide +kernel
theorem dX7_next_46 : decode cX7_next 46 = .ok (.goto 4, 3) := by decide +kernel
theorem dX7_next_49 : decode cX7_next 49 = .ok (.iconst (-1), 1) := by decide +kernel
theorem dX7_next_50 : decode cX7_next 50 = .ok (.ireturn, 1) := by decide +kernel
set_option maxRecDepth 200000 in
theorem ggX7_at_X7_of : GoodIn wsX7_at wsX7_of := goodIn_r _ [5, 6, 16, 17, 18, 19, 20, 21, 22, 23, 24, 25, 26, 27, 28] rfl (by decide +kernel)
set_option maxRecDepth 200000 in
theorem gX7_at_X7_of : GoodIn wsX7_at (wsV RX7 37 RX7 yX7_of wsX7_of) := goodIn_app (goodIn_of _ (by decide +kernel)) ggX7_at_X7_of
set_option maxRecDepth 200000 in
theorem ggX7_at_X7_down : GoodIn wsX7_at wsX7_down := goodIn_r _ [9, 10, 11, 4, 12] rfl (by decide +kernel)
set_option maxRecDepth 200000 in
theorem gX7_at_X7_down : GoodIn wsX7_at (va_wsS RX7 34 yX7_down wsX7_down) := goodIn_app (goodIn_of _ (by decide +kernel)) ggX7_at_X7_down
set_option maxRecDepth 200000 in
theorem ggX7_at_X7_across : GoodIn wsX7_at wsX7_across := goodIn_r _ [15] rfl (by decide +kernel)
set_option maxRecDepth 200000 in
theorem gX7_at_X7_across : GoodIn wsX7_at (va_wsS RX7 30 yX7_across wsX7_across) := goodIn_app (goodIn_of _ (by decide +kernel)) ggX7_at_X7_across
theorem dX7_at_0 : decode cX7_at 0 = .ok (.aload_n 0, 1) := by decide +kernel
theorem dX7_at_1 : decode cX7_at 1 = .ok (.iload_n 1, 1) := by decide +kernel
theorem dX7_at_2 : decode cX7_at 2 = .ok (.iconst 1, 1) := by decide +kernel
theorem dX7_at_3 : decode cX7_at 3 = .ok (.invokevirtual 37, 3) := by decide +kernel
theorem dX7_at_6 : decode cX7_at 6 = .ok (.istore_n 3, 1) := by decide +kernel
theorem dX7_at_7 : decode cX7_at 7 = .ok (.iconst 0, 1) := by decide +kernel
theorem dX7_at_8 : decode cX7_at 8 = .ok (.istore 4, 2) := by decide +kernel
theorem dX7_at_10 : decode cX7_at 10 = .ok (.iload 4, 2) := by decide +kernel
theorem dX7_at_12 : decode cX7_at 12 = .ok (.iload_n 2, 1) := by decide +kernel
theorem dX7_at_13 : decode cX7_at 13 = .ok (.if_icmp .ge 40, 3) := by decide +kernel
theorem dX7_at_16 : decode cX7_at 16 = .ok (.iload_n 3, 1) := by decide +kernel
theorem dX7_at_17 : decode cX7_at 17 = .ok (.bipush 24, 2) := by decide +kernel
theorem dX7_at_19 : decode cX7_at 19 = .ok (.aload_n 0, 1) := by decide +kernel
theorem dX7_at_20 : decode cX7_at 20 = .ok (.iload_n 1, 1) := by decide +kernel
theorem dX7_at_21 : decode cX7_at 21 = .ok (.iconst 4, 1) := by decide +kernel
theorem dX7_at_22 : decode cX7_at 22 = .ok (.iload 4, 2) := by decide +kernel
theorem dX7_at_24 : decode cX7_at 24 = .ok (.iadd, 1) := by decide +kernel
theorem dX7_at_25 : decode cX7_at 25 = .ok (.invokevirtual 37, 3) := by decide +kernel
theorem dX7_at_28 : decode cX7_at 28 = .ok (.invokestatic 34, 3) := by decide +kernel
theorem dX7_at_31 : decode cX7_at 31 = .ok (.imul, 1) := by decide +kernel
theorem dX7_at_32 : decode cX7_at 32 = .ok (.aload_n 0, 1) := by decide +kernel
theorem dX7_at_33 : decode cX7_at 33 = .ok (.iload_n 1, 1) := by decide +kernel
theorem dX7_at_34 : decode cX7_at 34 = .ok (.iconst 4, 1) := by decide +kernel
theorem dX7_at_35 : decode cX7_at 35 = .ok (.iload 4, 2) := by decide +kernel
theorem dX7_at_37 : decode cX7_at 37 = .ok (.iadd, 1) := by decide +kernel
theorem dX7_at_38 : decode cX7_at 38 = .ok (.invokevirtual 37, 3) := by decide +kernel
theorem dX7_at_41 : decode cX7_at 41 = .ok (.invokestatic 30, 3) := by decide +kernel
theorem dX7_at_44 : decode cX7_at 44 = .ok (.iadd, 1) := by decide +kernel
theorem dX7_at_45 : decode cX7_at 45 = .ok (.iadd, 1) := by decide +kernel
theorem dX7_at_46 : decode cX7_at 46 = .ok (.istore_n 3, 1) := by decide +kernel
theorem dX7_at_47 : decode cX7_at 47 = .ok (.iinc 4 1, 3) := by decide +kernel
theorem dX7_at_50 : decode cX7_at 50 = .ok (.goto (-40), 3) := by decide +kernel
theorem dX7_at_53 : decode cX7_at 53 = .ok (.iload_n 3, 1) := by decide +kernel
theorem dX7_at_54 : decode cX7_at 54 = .ok (.ireturn, 1) := by decide +kernel
set_option maxRecDepth 200000 in
theorem ggX7_last_X7_of : GoodIn wsX7_last wsX7_of := goodIn_r _ [5, 6, 20, 21, 22, 23, 24, 25, 26, 27, 28, 29, 30, 31, 32] rfl (by decide +kernel)
set_option maxRecDepth 200000 in
theorem gX7_last_X7_of : GoodIn wsX7_last (wsV RX7 37 RX7 yX7_of wsX7_of) := goodIn_app (goodIn_of _ (by decide +kernel)) ggX7_last_X7_of
set_option maxRecDepth 200000 in
theorem ggX7_last_X7_at : GoodIn wsX7_last wsX7_at := goodIn_r _ [10, 1, 2, 3, 4, 5, 6, 11, 12, 13, 14, 15, 16, 17, 18, 19, 20, 21, 22, 23, 24, 25, 26, 27, 28, 29, 30, 31, 32] rfl (by decide +kernel)
set_option maxRecDepth 200000 in
theorem gX7_last_X7_at : GoodIn wsX7_last (wsV RX7 41 RX7 yX7_at wsX7_at) := goodIn_app (goodIn_of _ (by decide +kernel)) ggX7_last_X7_at
theorem dX7_last_0 : decode cX7_last 0 = .ok (.aload_n 0, 1) := by decide +kernel
theorem dX7_last_1 : decode cX7_last 1 = .ok (.iload_n 1, 1) := by decide +kernel
theorem dX7_last_2 : decode cX7_last 2 = .ok (.aload_n 0, 1) := by decide +kernel
theorem dX7_last_3 : decode cX7_last 3 = .ok (.iload_n 1, 1) := by decide +kernel
theorem dX7_last_4 : decode cX7_last 4 = .ok (.iconst 2, 1) := by decide +kernel
theorem dX7_last_5 : decode cX7_last 5 = .ok (.invokevirtual 37, 3) := by decide +kernel
theorem dX7_last_8 : decode cX7_last 8 = .ok (.invokevirtual 41, 3) := by decide +kernel
theorem dX7_last_11 : decode cX7_last 11 = .ok (.ireturn, 1) := by decide +kernel
set_option maxRecDepth 200000 in
theorem ggX7_closes_X7_of : GoodIn wsX7_closes wsX7_of := goodIn_r _ [5, 6, 24, 25, 26, 27, 28, 29, 30, 31, 32, 33, 34, 35, 36] rfl (by decide +kernel)
set_option maxRecDepth 200000 in
theorem gX7_closes_X7_of : GoodIn wsX7_closes (wsV RX7 37 RX7 yX7_of wsX7_of) := goodIn_app (goodIn_of _ (by decide +kernel)) ggX7_closes_X7_of
set_option maxRecDepth 200000 in
theorem ggX7_closes_X7_last : GoodIn wsX7_closes wsX7_last := goodIn_r _ [10, 1, 2, 3, 4, 5, 6, 11, 12, 13, 14, 15, 16, 17, 18, 19, 20, 21, 22, 23, 24, 25, 26, 27, 28, 29, 30, 31, 32, 33, 34, 35, 36] rfl (by decide +kernel)
set_option maxRecDepth 200000 in
theorem gX7_closes_X7_last : GoodIn wsX7_closes (wsV RX7 44 RX7 yX7_last wsX7_last) := goodIn_app (goodIn_of _ (by decide +kernel)) ggX7_closes_X7_last
theorem dX7_closes_0 : decode cX7_closes 0 = .ok (.aload_n 0, 1) := by decide +kernel
theorem dX7_closes_1 : decode cX7_closes 1 = .ok (.iload_n 1, 1) := by decide +kernel
theorem dX7_closes_2 : decode cX7_closes 2 = .ok (.iconst 2, 1) := by decide +kernel
theorem dX7_closes_3 : decode cX7_closes 3 = .ok (.invokevirtual 37, 3) := by decide +kernel
theorem dX7_closes_6 : decode cX7_closes 6 = .ok (.ifCond .le 21, 3) := by decide +kernel
theorem dX7_closes_9 : decode cX7_closes 9 = .ok (.aload_n 0, 1) := by decide +kernel
theorem dX7_closes_10 : decode cX7_closes 10 = .ok (.iload_n 1, 1) := by decide +kernel
theorem dX7_closes_11 : decode cX7_closes 11 = .ok (.invokevirtual 44, 3) := by decide +kernel
theorem dX7_closes_14 : decode cX7_closes 14 = .ok (.aload_n 0, 1) := by decide +kernel
theorem dX7_closes_15 : decode cX7_closes 15 = .ok (.iload_n 1, 1) := by decide +kernel
theorem dX7_closes_16 : decode cX7_closes 16 = .ok (.iconst 1, 1) := by decide +kernel
theorem dX7_closes_17 : decode cX7_closes 17 = .ok (.invokevirtual 37, 3) := by decide +kernel
theorem dX7_closes_20 : decode cX7_closes 20 = .ok (.if_icmp .ne 7, 3) := by decide +kernel
theorem dX7_closes_23 : decode cX7_closes 23 = .ok (.iconst 1, 1) := by decide +kernel
theorem dX7_closes_24 : decode cX7_closes 24 = .ok (.goto 4, 3) := by decide +kernel
theorem dX7_closes_27 : decode cX7_closes 27 = .ok (.iconst 0, 1) := by decide +kernel
theorem dX7_closes_28 : decode cX7_closes 28 = .ok (.ireturn, 1) := by decide +kernel
set_option maxRecDepth 200000 in
theorem ggX7_owner_X7_of : GoodIn wsX7_owner wsX7_of := goodIn_r _ [6, 1, 16, 17, 18, 19, 20, 21, 22, 23, 24, 25, 26, 27, 28] rfl (by decide +kernel)
set_option maxRecDepth 200000 in
theorem gX7_owner_X7_of : GoodIn wsX7_owner (wsV RX7 37 RX7 yX7_of wsX7_of) := goodIn_app (goodIn_of _ (by decide +kernel)) ggX7_owner_X7_of
set_option maxRecDepth 200000 in
theorem ggX7_owner_X7_down : GoodIn wsX7_owner wsX7_down := goodIn_r _ [9, 10, 11, 5, 12] rfl (by decide +kernel)
set_option maxRecDepth 200000 in
theorem gX7_owner_X7_down : GoodIn wsX7_owner (va_wsS RX7 34 yX7_down wsX7_down) := goodIn_app (goodIn_of _ (by decide +kernel)) ggX7_owner_X7_down
set_option maxRecDepth 200000 in
theorem ggX7_owner_X7_across : GoodIn wsX7_owner wsX7_across := goodIn_r _ [15] rfl (by decide +kernel)
set_option maxRecDepth 200000 in
theorem gX7_owner_X7_across : GoodIn wsX7_owner (va_wsS RX7 30 yX7_across wsX7_across) := goodIn_app (goodIn_of _ (by decide +kernel)) ggX7_owner_X7_across
theorem dX7_owner_0 : decode cX7_owner 0 = .ok (.iconst 0, 1) := by decide +kernel
theorem dX7_owner_1 : decode cX7_owner 1 = .ok (.istore_n 2, 1) := by decide +kernel
theorem dX7_owner_2 : decode cX7_owner 2 = .ok (.iload_n 2, 1) := by decide +kernel
theorem dX7_owner_3 : decode cX7_owner 3 = .ok (.aload_n 0, 1) := by decide +kernel
theorem dX7_owner_4 : decode cX7_owner 4 = .ok (.getfield 7, 3) := by decide +kernel
theorem dX7_owner_7 : decode cX7_owner 7 = .ok (.iconst 0, 1) := by decide +kernel
theorem dX7_owner_8 : decode cX7_owner 8 = .ok (.iaload, 1) := by decide +kernel
theorem dX7_owner_9 : decode cX7_owner 9 = .ok (.if_icmp .ge 103, 3) := by decide +kernel
theorem dX7_owner_12 : decode cX7_owner 12 = .ok (.aload_n 0, 1) := by decide +kernel
theorem dX7_owner_13 : decode cX7_owner 13 = .ok (.iload_n 2, 1) := by decide +kernel
theorem dX7_owner_14 : decode cX7_owner 14 = .ok (.iconst 1, 1) := by decide +kernel
theorem dX7_owner_15 : decode cX7_owner 15 = .ok (.invokevirtual 37, 3) := by decide +kernel
theorem dX7_owner_18 : decode cX7_owner 18 = .ok (.istore_n 3, 1) := by decide +kernel
theorem dX7_owner_19 : decode cX7_owner 19 = .ok (.iload_n 3, 1) := by decide +kernel
theorem dX7_owner_20 : decode cX7_owner 20 = .ok (.iload_n 1, 1) := by decide +kernel
theorem dX7_owner_21 : decode cX7_owner 21 = .ok (.if_icmp .ne 7, 3) := by decide +kernel
theorem dX7_owner_24 : decode cX7_owner 24 = .ok (.iconst 1, 1) := by decide +kernel
theorem dX7_owner_25 : decode cX7_owner 25 = .ok (.goto 4, 3) := by decide +kernel
theorem dX7_owner_28 : decode cX7_owner 28 = .ok (.iconst 0, 1) := by decide +kernel
theorem dX7_owner_29 : decode cX7_owner 29 = .ok (.istore 4, 2) := by decide +kernel
theorem dX7_owner_31 : decode cX7_owner 31 = .ok (.iconst 0, 1) := by decide +kernel
theorem dX7_owner_32 : decode cX7_owner 32 = .ok (.istore 5, 2) := by decide +kernel
theorem dX7_owner_34 : decode cX7_owner 34 = .ok (.iload 5, 2) := by decide +kernel
theorem dX7_owner_36 : decode cX7_owner 36 = .ok (.aload_n 0, 1) := by decide +kernel
theorem dX7_owner_37 : decode cX7_owner 37 = .ok (.iload_n 2, 1) := by decide +kernel
theorem dX7_owner_38 : decode cX7_owner 38 = .ok (.iconst 2, 1) := by decide +kernel
theorem dX7_owner_39 : decode cX7_owner 39 = .ok (.invokevirtual 37, 3) := by decide +kernel
theorem dX7_owner_42 : decode cX7_owner 42 = .ok (.if_icmp .ge 57, 3) := by decide +kernel
theorem dX7_owner_45 : decode cX7_owner 45 = .ok (.iload_n 3, 1) := by decide +kernel
theorem dX7_owner_46 : decode cX7_owner 46 = .ok (.bipush 24, 2) := by decide +kernel
theorem dX7_owner_48 : decode cX7_owner 48 = .ok (.aload_n 0, 1) := by decide +kernel
theorem dX7_owner_49 : decode cX7_owner 49 = .ok (.iload_n 2, 1) := by decide +kernel
theorem dX7_owner_50 : decode cX7_owner 50 = .ok (.iconst 4, 1) := by decide +kernel
theorem dX7_owner_51 : decode cX7_owner 51 = .ok (.iload 5, 2) := by decide +kernel
theorem dX7_owner_53 : decode cX7_owner 53 = .ok (.iadd, 1) := by decide +kernel
theorem dX7_owner_54 : decode cX7_owner 54 = .ok (.invokevirtual 37, 3) := by decide +kernel
theorem dX7_owner_57 : decode cX7_owner 57 = .ok (.invokestatic 34, 3) := by decide +kernel
theorem dX7_owner_60 : decode cX7_owner 60 = .ok (.imul, 1) := by decide +kernel
theorem dX7_owner_61 : decode cX7_owner 61 = .ok (.aload_n 0, 1) := by decide +kernel
theorem dX7_owner_62 : decode cX7_owner 62 = .ok (.iload_n 2, 1) := by decide +kernel
theorem dX7_owner_63 : decode cX7_owner 63 = .ok (.iconst 4, 1) := by decide +kernel
theorem dX7_owner_64 : decode cX7_owner 64 = .ok (.iload 5, 2) := by decide +kernel
theorem dX7_owner_66 : decode cX7_owner 66 = .ok (.iadd, 1) := by decide +kernel
theorem dX7_owner_67 : decode cX7_owner 67 = .ok (.invokevirtual 37, 3) := by decide +kernel
theorem dX7_owner_70 : decode cX7_owner 70 = .ok (.invokestatic 30, 3) := by decide +kernel
theorem dX7_owner_73 : decode cX7_owner 73 = .ok (.iadd, 1) := by decide +kernel
theorem dX7_owner_74 : decode cX7_owner 74 = .ok (.iadd, 1) := by decide +kernel
theorem dX7_owner_75 : decode cX7_owner 75 = .ok (.istore_n 3, 1) := by decide +kernel
theorem dX7_owner_76 : decode cX7_owner 76 = .ok (.iload 4, 2) := by decide +kernel
theorem dX7_owner_78 : decode cX7_owner 78 = .ok (.ifCond .ne 8, 3) := by decide +kernel
theorem dX7_owner_81 : decode cX7_owner 81 = .ok (.iload_n 3, 1) := by decide +kernel
theorem dX7_owner_82 : decode cX7_owner 82 = .ok (.iload_n 1, 1) := by decide +kernel
theorem dX7_owner_83 : decode cX7_owner 83 = .ok (.if_icmp .ne 7, 3) := by decide +kernel
theorem dX7_owner_86 : decode cX7_owner 86 = .ok (.iconst 1, 1) := by decide +kernel
theorem dX7_owner_87 : decode cX7_owner 87 = .ok (.goto 4, 3) := by decide +kernel
theorem dX7_owner_90 : decode cX7_owner 90 = .ok (.iconst 0, 1) := by decide +kernel
theorem dX7_owner_91 : decode cX7_owner 91 = .ok (.istore 4, 2) := by decide +kernel
theorem dX7_owner_93 : decode cX7_owner 93 = .ok (.iinc 5 1, 3) := by decide +kernel
theorem dX7_owner_96 : decode cX7_owner 96 = .ok (.goto (-62), 3) := by decide +kernel
theorem dX7_owner_99 : decode cX7_owner 99 = .ok (.iload 4, 2) := by decide +kernel
theorem dX7_owner_101 : decode cX7_owner 101 = .ok (.ifCond .eq 5, 3) := by decide +kernel
theorem dX7_owner_104 : decode cX7_owner 104 = .ok (.iload_n 2, 1) := by decide +kernel
theorem dX7_owner_105 : decode cX7_owner 105 = .ok (.ireturn, 1) := by decide +kernel
theorem dX7_owner_106 : decode cX7_owner 106 = .ok (.iinc 2 1, 3) := by decide +kernel
theorem dX7_owner_109 : decode cX7_owner 109 = .ok (.goto (-107), 3) := by decide +kernel
theorem dX7_owner_112 : decode cX7_owner 112 = .ok (.iconst (-1), 1) := by decide +kernel
theorem dX7_owner_113 : decode cX7_owner 113 = .ok (.ireturn, 1) := by decide +kernel
set_option maxRecDepth 200000 in
theorem ggX7_isStep_X7_of : GoodIn wsX7_isStep wsX7_of := goodIn_r _ [6, 1, 16, 17, 18, 19, 20, 21, 22, 23, 24, 25, 26, 27, 28] rfl (by decide +kernel)
set_option maxRecDepth 200000 in
theorem gX7_isStep_X7_of : GoodIn wsX7_isStep (wsV RX7 37 RX7 yX7_of wsX7_of) := goodIn_app (goodIn_of _ (by decide +kernel)) ggX7_isStep_X7_of
set_option maxRecDepth 200000 in
theorem ggX7_isStep_X7_down : GoodIn wsX7_isStep wsX7_down := goodIn_r _ [9, 10, 11, 5, 12] rfl (by decide +kernel)
set_option maxRecDepth 200000 in
theorem gX7_isStep_X7_down : GoodIn wsX7_isStep (va_wsS RX7 34 yX7_down wsX7_down) := goodIn_app (goodIn_of _ (by decide +kernel)) ggX7_isStep_X7_down
set_option maxRecDepth 200000 in
theorem ggX7_isStep_X7_across : GoodIn wsX7_isStep wsX7_across := goodIn_r _ [15] rfl (by decide +kernel)
set_option maxRecDepth 200000 in
theorem gX7_isStep_X7_across : GoodIn wsX7_isStep (va_wsS RX7 30 yX7_across wsX7_across) := goodIn_app (goodIn_of _ (by decide +kernel)) ggX7_isStep_X7_across
theorem dX7_isStep_0 : decode cX7_isStep 0 = .ok (.iconst 0, 1) := by decide +kernel
theorem dX7_isStep_1 : decode cX7_isStep 1 = .ok (.istore_n 3, 1) := by decide +kernel
theorem dX7_isStep_2 : decode cX7_isStep 2 = .ok (.iconst 0, 1) := by decide +kernel
theorem dX7_isStep_3 : decode cX7_isStep 3 = .ok (.istore 4, 2) := by decide +kernel
theorem dX7_isStep_5 : decode cX7_isStep 5 = .ok (.iload 4, 2) := by decide +kernel
theorem dX7_isStep_7 : decode cX7_isStep 7 = .ok (.aload_n 0, 1) := by decide +kernel
theorem dX7_isStep_8 : decode cX7_isStep 8 = .ok (.getfield 7, 3) := by decide +kernel
theorem dX7_isStep_11 : decode cX7_isStep 11 = .ok (.iconst 0, 1) := by decide +kernel
theorem dX7_isStep_12 : decode cX7_isStep 12 = .ok (.iaload, 1) := by decide +kernel
theorem dX7_isStep_13 : decode cX7_isStep 13 = .ok (.if_icmp .ge 112, 3) := by decide +kernel
theorem dX7_isStep_16 : decode cX7_isStep 16 = .ok (.aload_n 0, 1) := by decide +kernel
theorem dX7_isStep_17 : decode cX7_isStep 17 = .ok (.iload 4, 2) := by decide +kernel
theorem dX7_isStep_19 : decode cX7_isStep 19 = .ok (.iconst 1, 1) := by decide +kernel
theorem dX7_isStep_20 : decode cX7_isStep 20 = .ok (.invokevirtual 37, 3) := by decide +kernel
theorem dX7_isStep_23 : decode cX7_isStep 23 = .ok (.istore 5, 2) := by decide +kernel
theorem dX7_isStep_25 : decode cX7_isStep 25 = .ok (.iconst 0, 1) := by decide +kernel
theorem dX7_isStep_26 : decode cX7_isStep 26 = .ok (.istore 6, 2) := by decide +kernel
theorem dX7_isStep_28 : decode cX7_isStep 28 = .ok (.iload 6, 2) := by decide +kernel
theorem dX7_isStep_30 : decode cX7_isStep 30 = .ok (.aload_n 0, 1) := by decide +kernel
theorem dX7_isStep_31 : decode cX7_isStep 31 = .ok (.iload 4, 2) := by decide +kernel
theorem dX7_isStep_33 : decode cX7_isStep 33 = .ok (.iconst 2, 1) := by decide +kernel
theorem dX7_isStep_34 : decode cX7_isStep 34 = .ok (.invokevirtual 37, 3) := by decide +kernel
theorem dX7_isStep_37 : decode cX7_isStep 37 = .ok (.if_icmp .ge 82, 3) := by decide +kernel
theorem dX7_isStep_40 : decode cX7_isStep 40 = .ok (.iload 5, 2) := by decide +kernel
theorem dX7_isStep_42 : decode cX7_isStep 42 = .ok (.bipush 24, 2) := by decide +kernel
theorem dX7_isStep_44 : decode cX7_isStep 44 = .ok (.aload_n 0, 1) := by decide +kernel
theorem dX7_isStep_45 : decode cX7_isStep 45 = .ok (.iload 4, 2) := by decide +kernel
theorem dX7_isStep_47 : decode cX7_isStep 47 = .ok (.iconst 4, 1) := by decide +kernel
theorem dX7_isStep_48 : decode cX7_isStep 48 = .ok (.iload 6, 2) := by decide +kernel
theorem dX7_isStep_50 : decode cX7_isStep 50 = .ok (.iadd, 1) := by decide +kernel
theorem dX7_isStep_51 : decode cX7_isStep 51 = .ok (.invokevirtual 37, 3) := by decide +kernel
theorem dX7_isStep_54 : decode cX7_isStep 54 = .ok (.invokestatic 34, 3) := by decide +kernel
theorem dX7_isStep_57 : decode cX7_isStep 57 = .ok (.imul, 1) := by decide +kernel
theorem dX7_isStep_58 : decode cX7_isStep 58 = .ok (.iadd, 1) := by decide +kernel
theorem dX7_isStep_59 : decode cX7_isStep 59 = .ok (.aload_n 0, 1) := by decide +kernel
theorem dX7_isStep_60 : decode cX7_isStep 60 = .ok (.iload 4, 2) := by decide +kernel
theorem dX7_isStep_62 : decode cX7_isStep 62 = .ok (.iconst 4, 1) := by decide +kernel
theorem dX7_isStep_63 : decode cX7_isStep 63 = .ok (.iload 6, 2) := by decide +kernel
theorem dX7_isStep_65 : decode cX7_isStep 65 = .ok (.iadd, 1) := by decide +kernel
theorem dX7_isStep_66 : decode cX7_isStep 66 = .ok (.invokevirtual 37, 3) := by decide +kernel
theorem dX7_isStep_69 : decode cX7_isStep 69 = .ok (.invokestatic 30, 3) := by decide +kernel
theorem dX7_isStep_72 : decode cX7_isStep 72 = .ok (.iadd, 1) := by decide +kernel
theorem dX7_isStep_73 : decode cX7_isStep 73 = .ok (.istore 7, 2) := by decide +kernel
theorem dX7_isStep_75 : decode cX7_isStep 75 = .ok (.iload_n 3, 1) := by decide +kernel
theorem dX7_isStep_76 : decode cX7_isStep 76 = .ok (.ifCond .ne 27, 3) := by decide +kernel
theorem dX7_isStep_79 : decode cX7_isStep 79 = .ok (.iload 5, 2) := by decide +kernel
theorem dX7_isStep_81 : decode cX7_isStep 81 = .ok (.iload_n 1, 1) := by decide +kernel
theorem dX7_isStep_82 : decode cX7_isStep 82 = .ok (.if_icmp .ne 9, 3) := by decide +kernel
theorem dX7_isStep_85 : decode cX7_isStep 85 = .ok (.iload 7, 2) := by decide +kernel
theorem dX7_isStep_87 : decode cX7_isStep 87 = .ok (.iload_n 2, 1) := by decide +kernel
theorem dX7_isStep_88 : decode cX7_isStep 88 = .ok (.if_icmp .eq 15, 3) := by decide +kernel
theorem dX7_isStep_91 : decode cX7_isStep 91 = .ok (.iload 5, 2) := by decide +kernel
theorem dX7_isStep_93 : decode cX7_isStep 93 = .ok (.iload_n 2, 1) := by decide +kernel
theorem dX7_isStep_94 : decode cX7_isStep 94 = .ok (.if_icmp .ne 13, 3) := by decide +kernel
theorem dX7_isStep_97 : decode cX7_isStep 97 = .ok (.iload 7, 2) := by decide +kernel
theorem dX7_isStep_99 : decode cX7_isStep 99 = .ok (.iload_n 1, 1) := by decide +kernel
theorem dX7_isStep_100 : decode cX7_isStep 100 = .ok (.if_icmp .ne 7, 3) := by decide +kernel
theorem dX7_isStep_103 : decode cX7_isStep 103 = .ok (.iconst 1, 1) := by decide +kernel
theorem dX7_isStep_104 : decode cX7_isStep 104 = .ok (.goto 4, 3) := by decide +kernel
theorem dX7_isStep_107 : decode cX7_isStep 107 = .ok (.iconst 0, 1) := by decide +kernel
theorem dX7_isStep_108 : decode cX7_isStep 108 = .ok (.istore_n 3, 1) := by decide +kernel
theorem dX7_isStep_109 : decode cX7_isStep 109 = .ok (.iload 7, 2) := by decide +kernel
theorem dX7_isStep_111 : decode cX7_isStep 111 = .ok (.istore 5, 2) := by decide +kernel
theorem dX7_isStep_113 : decode cX7_isStep 113 = .ok (.iinc 6 1, 3) := by decide +kernel
theorem dX7_isStep_116 : decode cX7_isStep 116 = .ok (.goto (-88), 3) := by decide +kernel
theorem dX7_isStep_119 : decode cX7_isStep 119 = .ok (.iinc 4 1, 3) := by decide +kernel
theorem dX7_isStep_122 : decode cX7_isStep 122 = .ok (.goto (-117), 3) := by decide +kernel
theorem dX7_isStep_125 : decode cX7_isStep 125 = .ok (.iload_n 3, 1) := by decide +kernel
theorem dX7_isStep_126 : decode cX7_isStep 126 = .ok (.ireturn, 1) := by decide +kernel
set_option maxRecDepth 200000 in
theorem ggX7_whyNot_X7_closes : GoodIn wsX7_whyNot wsX7_closes := goodIn_r _ [5, 6, 7, 8, 4, 9, 10, 11, 12, 13, 14, 15, 16, 17, 18, 19, 20, 21, 22, 23, 24, 25, 26, 27, 39, 40, 41, 42, 43, 44, 45, 46, 47, 48, 49, 50, 51] rfl (by decide +kernel)
set_option maxRecDepth 200000 in
theorem gX7_whyNot_X7_closes : GoodIn wsX7_whyNot (wsV RX7 47 RX7 yX7_closes wsX7_closes) := goodIn_app (goodIn_of _ (by decide +kernel)) ggX7_whyNot_X7_closes
set_option maxRecDepth 200000 in
theorem ggX7_whyNot_X7_of : GoodIn wsX7_whyNot wsX7_of := goodIn_r _ [9, 10, 39, 40, 41, 42, 43, 44, 45, 46, 47, 48, 49, 50, 51] rfl (by decide +kernel)
set_option maxRecDepth 200000 in
theorem gX7_whyNot_X7_of : GoodIn wsX7_whyNot (wsV RX7 37 RX7 yX7_of wsX7_of) := goodIn_app (goodIn_of _ (by decide +kernel)) ggX7_whyNot_X7_of
set_option maxRecDepth 200000 in
theorem ggX7_whyNot_X7_last : GoodIn wsX7_whyNot wsX7_last := goodIn_r _ [14, 6, 7, 8, 4, 9, 10, 15, 16, 17, 18, 19, 20, 21, 22, 23, 24, 25, 26, 27, 39, 40, 41, 42, 43, 44, 45, 46, 47, 48, 49, 50, 51] rfl (by decide +kernel)
set_option maxRecDepth 200000 in
theorem gX7_whyNot_X7_last : GoodIn wsX7_whyNot (wsV RX7 44 RX7 yX7_last wsX7_last) := goodIn_app (goodIn_of _ (by decide +kernel)) ggX7_whyNot_X7_last
set_option maxRecDepth 200000 in
theorem ggX7_whyNot_X7_next : GoodIn wsX7_whyNot wsX7_next := goodIn_r _ [30, 25, 26, 4, 27, 19, 20, 21, 22, 23, 24] rfl (by decide +kernel)
set_option maxRecDepth 200000 in
theorem gX7_whyNot_X7_next : GoodIn wsX7_whyNot (va_wsS RX7 51 yX7_next wsX7_next) := goodIn_app (goodIn_of _ (by decide +kernel)) ggX7_whyNot_X7_next
set_option maxRecDepth 200000 in
theorem ggX7_whyNot_X7_owner : GoodIn wsX7_whyNot wsX7_owner := goodIn_r _ [34, 10, 6, 7, 8, 4, 9, 19, 20, 21, 22, 23, 24, 25, 26, 27, 39, 40, 41, 42, 43, 44, 45, 46, 47, 48, 49, 50, 51] rfl (by decide +kernel)
set_option maxRecDepth 200000 in
theorem gX7_whyNot_X7_owner : GoodIn wsX7_whyNot (wsV RX7 54 RX7 yX7_owner wsX7_owner) := goodIn_app (goodIn_of _ (by decide +kernel)) ggX7_whyNot_X7_owner
set_option maxRecDepth 200000 in
theorem ggX7_whyNot_X7_across : GoodIn wsX7_whyNot wsX7_across := goodIn_r _ [27] rfl (by decide +kernel)
set_option maxRecDepth 200000 in
theorem gX7_whyNot_X7_across : GoodIn wsX7_whyNot (va_wsS RX7 30 yX7_across wsX7_across) := goodIn_app (goodIn_of _ (by decide +kernel)) ggX7_whyNot_X7_across
set_option maxRecDepth 200000 in
theorem ggX7_whyNot_X7_down : GoodIn wsX7_whyNot wsX7_down := goodIn_r _ [21, 22, 23, 4, 24] rfl (by decide +kernel)
set_option maxRecDepth 200000 in
theorem gX7_whyNot_X7_down : GoodIn wsX7_whyNot (va_wsS RX7 34 yX7_down wsX7_down) := goodIn_app (goodIn_of _ (by decide +kernel)) ggX7_whyNot_X7_down
set_option maxRecDepth 200000 in
theorem ggX7_whyNot_X7_isStep : GoodIn wsX7_whyNot wsX7_isStep := goodIn_r _ [38, 10, 6, 7, 8, 4, 9, 19, 20, 21, 22, 23, 24, 25, 26, 27, 39, 40, 41, 42, 43, 44, 45, 46, 47, 48, 49, 50, 51] rfl (by decide +kernel)
set_option maxRecDepth 200000 in
theorem gX7_whyNot_X7_isStep : GoodIn wsX7_whyNot (wsV RX7 57 RX7 yX7_isStep wsX7_isStep) := goodIn_app (goodIn_of _ (by decide +kernel)) ggX7_whyNot_X7_isStep
theorem dX7_whyNot_0 : decode cX7_whyNot 0 = .ok (.aload_n 0, 1) := by decide +kernel
theorem dX7_whyNot_1 : decode cX7_whyNot 1 = .ok (.iload_n 1, 1) := by decide +kernel
theorem dX7_whyNot_2 : decode cX7_whyNot 2 = .ok (.invokevirtual 47, 3) := by decide +kernel
theorem dX7_whyNot_5 : decode cX7_whyNot 5 = .ok (.ifCond .eq 5, 3) := by decide +kernel
theorem dX7_whyNot_8 : decode cX7_whyNot 8 = .ok (.iconst 1, 1) := by decide +kernel
theorem dX7_whyNot_9 : decode cX7_whyNot 9 = .ok (.ireturn, 1) := by decide +kernel
theorem dX7_whyNot_10 : decode cX7_whyNot 10 = .ok (.aload_n 0, 1) := by decide +kernel
theorem dX7_whyNot_11 : decode cX7_whyNot 11 = .ok (.iload_n 1, 1) := by decide +kernel
theorem dX7_whyNot_12 : decode cX7_whyNot 12 = .ok (.iconst 2, 1) := by decide +kernel
theorem dX7_whyNot_13 : decode cX7_whyNot 13 = .ok (.invokevirtual 37, 3) := by decide +kernel
theorem dX7_whyNot_16 : decode cX7_whyNot 16 = .ok (.bipush 60, 2) := by decide +kernel
theorem dX7_whyNot_18 : decode cX7_whyNot 18 = .ok (.if_icmp .ne 5, 3) := by decide +kernel
theorem dX7_whyNot_21 : decode cX7_whyNot 21 = .ok (.iconst 2, 1) := by decide +kernel
theorem dX7_whyNot_22 : decode cX7_whyNot 22 = .ok (.ireturn, 1) := by decide +kernel
theorem dX7_whyNot_23 : decode cX7_whyNot 23 = .ok (.aload_n 0, 1) := by decide +kernel
theorem dX7_whyNot_24 : decode cX7_whyNot 24 = .ok (.iload_n 1, 1) := by decide +kernel
theorem dX7_whyNot_25 : decode cX7_whyNot 25 = .ok (.invokevirtual 44, 3) := by decide +kernel
theorem dX7_whyNot_28 : decode cX7_whyNot 28 = .ok (.istore_n 3, 1) := by decide +kernel
theorem dX7_whyNot_29 : decode cX7_whyNot 29 = .ok (.iload_n 3, 1) := by decide +kernel
theorem dX7_whyNot_30 : decode cX7_whyNot 30 = .ok (.iload_n 2, 1) := by decide +kernel
theorem dX7_whyNot_31 : decode cX7_whyNot 31 = .ok (.invokestatic 51, 3) := by decide +kernel
theorem dX7_whyNot_34 : decode cX7_whyNot 34 = .ok (.istore 4, 2) := by decide +kernel
theorem dX7_whyNot_36 : decode cX7_whyNot 36 = .ok (.iload 4, 2) := by decide +kernel
theorem dX7_whyNot_38 : decode cX7_whyNot 38 = .ok (.iconst (-1), 1) := by decide +kernel
theorem dX7_whyNot_39 : decode cX7_whyNot 39 = .ok (.if_icmp .ne 5, 3) := by decide +kernel
theorem dX7_whyNot_42 : decode cX7_whyNot 42 = .ok (.iconst 3, 1) := by decide +kernel
theorem dX7_whyNot_43 : decode cX7_whyNot 43 = .ok (.ireturn, 1) := by decide +kernel
theorem dX7_whyNot_44 : decode cX7_whyNot 44 = .ok (.iload 4, 2) := by decide +kernel
theorem dX7_whyNot_46 : decode cX7_whyNot 46 = .ok (.aload_n 0, 1) := by decide +kernel
theorem dX7_whyNot_47 : decode cX7_whyNot 47 = .ok (.iload_n 1, 1) := by decide +kernel
theorem dX7_whyNot_48 : decode cX7_whyNot 48 = .ok (.iconst 1, 1) := by decide +kernel
theorem dX7_whyNot_49 : decode cX7_whyNot 49 = .ok (.invokevirtual 37, 3) := by decide +kernel
theorem dX7_whyNot_52 : decode cX7_whyNot 52 = .ok (.if_icmp .ne 17, 3) := by decide +kernel
theorem dX7_whyNot_55 : decode cX7_whyNot 55 = .ok (.aload_n 0, 1) := by decide +kernel
theorem dX7_whyNot_56 : decode cX7_whyNot 56 = .ok (.iload_n 1, 1) := by decide +kernel
theorem dX7_whyNot_57 : decode cX7_whyNot 57 = .ok (.iconst 2, 1) := by decide +kernel
theorem dX7_whyNot_58 : decode cX7_whyNot 58 = .ok (.invokevirtual 37, 3) := by decide +kernel
theorem dX7_whyNot_61 : decode cX7_whyNot 61 = .ok (.iconst 3, 1) := by decide +kernel
theorem dX7_whyNot_62 : decode cX7_whyNot 62 = .ok (.if_icmp .lt 7, 3) := by decide +kernel
theorem dX7_whyNot_65 : decode cX7_whyNot 65 = .ok (.iconst 1, 1) := by decide +kernel
theorem dX7_whyNot_66 : decode cX7_whyNot 66 = .ok (.goto 4, 3) := by decide +kernel
theorem dX7_whyNot_69 : decode cX7_whyNot 69 = .ok (.iconst 0, 1) := by decide +kernel
theorem dX7_whyNot_70 : decode cX7_whyNot 70 = .ok (.istore 5, 2) := by decide +kernel
theorem dX7_whyNot_72 : decode cX7_whyNot 72 = .ok (.aload_n 0, 1) := by decide +kernel
theorem dX7_whyNot_73 : decode cX7_whyNot 73 = .ok (.iload 4, 2) := by decide +kernel
theorem dX7_whyNot_75 : decode cX7_whyNot 75 = .ok (.invokevirtual 54, 3) := by decide +kernel
theorem dX7_whyNot_78 : decode cX7_whyNot 78 = .ok (.iconst (-1), 1) := by decide +kernel
theorem dX7_whyNot_79 : decode cX7_whyNot 79 = .ok (.if_icmp .eq 10, 3) := by decide +kernel
theorem dX7_whyNot_82 : decode cX7_whyNot 82 = .ok (.iload 5, 2) := by decide +kernel
theorem dX7_whyNot_84 : decode cX7_whyNot 84 = .ok (.ifCond .ne 5, 3) := by decide +kernel
theorem dX7_whyNot_87 : decode cX7_whyNot 87 = .ok (.iconst 4, 1) := by decide +kernel
theorem dX7_whyNot_88 : decode cX7_whyNot 88 = .ok (.ireturn, 1) := by decide +kernel
theorem dX7_whyNot_89 : decode cX7_whyNot 89 = .ok (.iload_n 2, 1) := by decide +kernel
theorem dX7_whyNot_90 : decode cX7_whyNot 90 = .ok (.iconst 2, 1) := by decide +kernel
theorem dX7_whyNot_91 : decode cX7_whyNot 91 = .ok (.irem, 1) := by decide +kernel
theorem dX7_whyNot_92 : decode cX7_whyNot 92 = .ok (.iconst 1, 1) := by decide +kernel
theorem dX7_whyNot_93 : decode cX7_whyNot 93 = .ok (.if_icmp .ne 29, 3) := by decide +kernel
theorem dX7_whyNot_96 : decode cX7_whyNot 96 = .ok (.aload_n 0, 1) := by decide +kernel
theorem dX7_whyNot_97 : decode cX7_whyNot 97 = .ok (.iload_n 3, 1) := by decide +kernel
theorem dX7_whyNot_98 : decode cX7_whyNot 98 = .ok (.iload_n 2, 1) := by decide +kernel
theorem dX7_whyNot_99 : decode cX7_whyNot 99 = .ok (.invokestatic 30, 3) := by decide +kernel
theorem dX7_whyNot_102 : decode cX7_whyNot 102 = .ok (.iadd, 1) := by decide +kernel
theorem dX7_whyNot_103 : decode cX7_whyNot 103 = .ok (.iload_n 3, 1) := by decide +kernel
theorem dX7_whyNot_104 : decode cX7_whyNot 104 = .ok (.bipush 24, 2) := by decide +kernel
theorem dX7_whyNot_106 : decode cX7_whyNot 106 = .ok (.iload_n 2, 1) := by decide +kernel
theorem dX7_whyNot_107 : decode cX7_whyNot 107 = .ok (.invokestatic 34, 3) := by decide +kernel
theorem dX7_whyNot_110 : decode cX7_whyNot 110 = .ok (.imul, 1) := by decide +kernel
theorem dX7_whyNot_111 : decode cX7_whyNot 111 = .ok (.iadd, 1) := by decide +kernel
theorem dX7_whyNot_112 : decode cX7_whyNot 112 = .ok (.invokevirtual 57, 3) := by decide +kernel
theorem dX7_whyNot_115 : decode cX7_whyNot 115 = .ok (.ifCond .eq 7, 3) := by decide +kernel
theorem dX7_whyNot_118 : decode cX7_whyNot 118 = .ok (.iconst 5, 1) := by decide +kernel
theorem dX7_whyNot_119 : decode cX7_whyNot 119 = .ok (.goto 4, 3) := by decide +kernel
theorem dX7_whyNot_122 : decode cX7_whyNot 122 = .ok (.iconst 0, 1) := by decide +kernel
theorem dX7_whyNot_123 : decode cX7_whyNot 123 = .ok (.ireturn, 1) := by decide +kernel
set_option maxRecDepth 200000 in
theorem ggX7_turn_X7_apart : GoodIn wsX7_turn wsX7_apart := goodIn_r _ [4] rfl (by decide +kernel)
set_option maxRecDepth 200000 in
theorem gX7_turn_X7_apart : GoodIn wsX7_turn (va_wsS RX7 61 yX7_apart wsX7_apart) := goodIn_app (goodIn_of _ (by decide +kernel)) ggX7_turn_X7_apart
theorem dX7_turn_0 : decode cX7_turn 0 = .ok (.iload_n 0, 1) := by decide +kernel
theorem dX7_turn_1 : decode cX7_turn 1 = .ok (.iload_n 1, 1) := by decide +kernel
theorem dX7_turn_2 : decode cX7_turn 2 = .ok (.invokestatic 61, 3) := by decide +kernel
theorem dX7_turn_5 : decode cX7_turn 5 = .ok (.istore_n 2, 1) := by decide +kernel
theorem dX7_turn_6 : decode cX7_turn 6 = .ok (.iload_n 2, 1) := by decide +kernel
theorem dX7_turn_7 : decode cX7_turn 7 = .ok (.bipush 8, 2) := by decide +kernel
theorem dX7_turn_9 : decode cX7_turn 9 = .ok (.iload_n 2, 1) := by decide +kernel
theorem dX7_turn_10 : decode cX7_turn 10 = .ok (.isub, 1) := by decide +kernel
theorem dX7_turn_11 : decode cX7_turn 11 = .ok (.if_icmp .ge 7, 3) := by decide +kernel
theorem dX7_turn_14 : decode cX7_turn 14 = .ok (.iload_n 2, 1) := by decide +kernel
theorem dX7_turn_15 : decode cX7_turn 15 = .ok (.goto 7, 3) := by decide +kernel
theorem dX7_turn_18 : decode cX7_turn 18 = .ok (.bipush 8, 2) := by decide +kernel
theorem dX7_turn_20 : decode cX7_turn 20 = .ok (.iload_n 2, 1) := by decide +kernel
theorem dX7_turn_21 : decode cX7_turn 21 = .ok (.isub, 1) := by decide +kernel
theorem dX7_turn_22 : decode cX7_turn 22 = .ok (.ireturn, 1) := by decide +kernel
set_option maxRecDepth 200000 in
theorem ggX7_bend_X7_of : GoodIn wsX7_bend wsX7_of := goodIn_r _ [5, 6, 34, 35, 36, 37, 38, 39, 40, 41, 42, 43, 44, 45, 46] rfl (by decide +kernel)
set_option maxRecDepth 200000 in
theorem gX7_bend_X7_of : GoodIn wsX7_bend (wsV RX7 37 RX7 yX7_of wsX7_of) := goodIn_app (goodIn_of _ (by decide +kernel)) ggX7_bend_X7_of
set_option maxRecDepth 200000 in
theorem ggX7_bend_X7_turn : GoodIn wsX7_bend wsX7_turn := goodIn_r _ [9, 10, 11, 4, 12] rfl (by decide +kernel)
set_option maxRecDepth 200000 in
theorem gX7_bend_X7_turn : GoodIn wsX7_bend (va_wsS RX7 64 yX7_turn wsX7_turn) := goodIn_app (goodIn_of _ (by decide +kernel)) ggX7_bend_X7_turn
set_option maxRecDepth 200000 in
theorem ggX7_bend_X7_closes : GoodIn wsX7_bend wsX7_closes := goodIn_r _ [16, 1, 2, 3, 4, 5, 6, 17, 18, 19, 20, 21, 22, 23, 24, 25, 26, 27, 28, 29, 30, 31, 32, 33, 34, 35, 36, 37, 38, 39, 40, 41, 42, 43, 44, 45, 46] rfl (by decide +kernel)
set_option maxRecDepth 200000 in
theorem gX7_bend_X7_closes : GoodIn wsX7_bend (wsV RX7 47 RX7 yX7_closes wsX7_closes) := goodIn_app (goodIn_of _ (by decide +kernel)) ggX7_bend_X7_closes
theorem dX7_bend_0 : decode cX7_bend 0 = .ok (.aload_n 0, 1) := by decide +kernel
theorem dX7_bend_1 : decode cX7_bend 1 = .ok (.iload_n 1, 1) := by decide +kernel
theorem dX7_bend_2 : decode cX7_bend 2 = .ok (.iconst 2, 1) := by decide +kernel
theorem dX7_bend_3 : decode cX7_bend 3 = .ok (.invokevirtual 37, 3) := by decide +kernel
theorem dX7_bend_6 : decode cX7_bend 6 = .ok (.istore_n 3, 1) := by decide +kernel
theorem dX7_bend_7 : decode cX7_bend 7 = .ok (.iload_n 2, 1) := by decide +kernel
theorem dX7_bend_8 : decode cX7_bend 8 = .ok (.ifCond .le 30, 3) := by decide +kernel
theorem dX7_bend_11 : decode cX7_bend 11 = .ok (.iload_n 2, 1) := by decide +kernel
theorem dX7_bend_12 : decode cX7_bend 12 = .ok (.iload_n 3, 1) := by decide +kernel
theorem dX7_bend_13 : decode cX7_bend 13 = .ok (.if_icmp .ge 25, 3) := by decide +kernel
theorem dX7_bend_16 : decode cX7_bend 16 = .ok (.aload_n 0, 1) := by decide +kernel
theorem dX7_bend_17 : decode cX7_bend 17 = .ok (.iload_n 1, 1) := by decide +kernel
theorem dX7_bend_18 : decode cX7_bend 18 = .ok (.iconst 4, 1) := by decide +kernel
theorem dX7_bend_19 : decode cX7_bend 19 = .ok (.iload_n 2, 1) := by decide +kernel
theorem dX7_bend_20 : decode cX7_bend 20 = .ok (.iadd, 1) := by decide +kernel
theorem dX7_bend_21 : decode cX7_bend 21 = .ok (.iconst 1, 1) := by decide +kernel
theorem dX7_bend_22 : decode cX7_bend 22 = .ok (.isub, 1) := by decide +kernel
theorem dX7_bend_23 : decode cX7_bend 23 = .ok (.invokevirtual 37, 3) := by decide +kernel
theorem dX7_bend_26 : decode cX7_bend 26 = .ok (.aload_n 0, 1) := by decide +kernel
theorem dX7_bend_27 : decode cX7_bend 27 = .ok (.iload_n 1, 1) := by decide +kernel
theorem dX7_bend_28 : decode cX7_bend 28 = .ok (.iconst 4, 1) := by decide +kernel
theorem dX7_bend_29 : decode cX7_bend 29 = .ok (.iload_n 2, 1) := by decide +kernel
theorem dX7_bend_30 : decode cX7_bend 30 = .ok (.iadd, 1) := by decide +kernel
theorem dX7_bend_31 : decode cX7_bend 31 = .ok (.invokevirtual 37, 3) := by decide +kernel
theorem dX7_bend_34 : decode cX7_bend 34 = .ok (.invokestatic 64, 3) := by decide +kernel
theorem dX7_bend_37 : decode cX7_bend 37 = .ok (.ireturn, 1) := by decide +kernel
theorem dX7_bend_38 : decode cX7_bend 38 = .ok (.aload_n 0, 1) := by decide +kernel
theorem dX7_bend_39 : decode cX7_bend 39 = .ok (.iload_n 1, 1) := by decide +kernel
theorem dX7_bend_40 : decode cX7_bend 40 = .ok (.invokevirtual 47, 3) := by decide +kernel
theorem dX7_bend_43 : decode cX7_bend 43 = .ok (.ifCond .eq 25, 3) := by decide +kernel
theorem dX7_bend_46 : decode cX7_bend 46 = .ok (.aload_n 0, 1) := by decide +kernel
theorem dX7_bend_47 : decode cX7_bend 47 = .ok (.iload_n 1, 1) := by decide +kernel
theorem dX7_bend_48 : decode cX7_bend 48 = .ok (.iconst 4, 1) := by decide +kernel
theorem dX7_bend_49 : decode cX7_bend 49 = .ok (.iload_n 3, 1) := by decide +kernel
theorem dX7_bend_50 : decode cX7_bend 50 = .ok (.iadd, 1) := by decide +kernel
theorem dX7_bend_51 : decode cX7_bend 51 = .ok (.iconst 1, 1) := by decide +kernel
theorem dX7_bend_52 : decode cX7_bend 52 = .ok (.isub, 1) := by decide +kernel
theorem dX7_bend_53 : decode cX7_bend 53 = .ok (.invokevirtual 37, 3) := by decide +kernel
theorem dX7_bend_56 : decode cX7_bend 56 = .ok (.aload_n 0, 1) := by decide +kernel
theorem dX7_bend_57 : decode cX7_bend 57 = .ok (.iload_n 1, 1) := by decide +kernel
theorem dX7_bend_58 : decode cX7_bend 58 = .ok (.iconst 4, 1) := by decide +kernel
theorem dX7_bend_59 : decode cX7_bend 59 = .ok (.invokevirtual 37, 3) := by decide +kernel
theorem dX7_bend_62 : decode cX7_bend 62 = .ok (.invokestatic 64, 3) := by decide +kernel
theorem dX7_bend_65 : decode cX7_bend 65 = .ok (.goto 4, 3) := by decide +kernel
theorem dX7_bend_68 : decode cX7_bend 68 = .ok (.iconst 0, 1) := by decide +kernel
theorem dX7_bend_69 : decode cX7_bend 69 = .ok (.ireturn, 1) := by decide +kernel
set_option maxRecDepth 200000 in
theorem ggX7_size_X7_of : GoodIn wsX7_size wsX7_of := goodIn_r _ [5, 6, 7, 8, 9, 10, 11, 12, 13, 14, 15, 16, 17, 18, 19] rfl (by decide +kernel)
set_option maxRecDepth 200000 in
theorem gX7_size_X7_of : GoodIn wsX7_size (wsV RX7 37 RX7 yX7_of wsX7_of) := goodIn_app (goodIn_of _ (by decide +kernel)) ggX7_size_X7_of
theorem dX7_size_0 : decode cX7_size 0 = .ok (.aload_n 0, 1) := by decide +kernel
theorem dX7_size_1 : decode cX7_size 1 = .ok (.iload_n 1, 1) := by decide +kernel
theorem dX7_size_2 : decode cX7_size 2 = .ok (.iconst 0, 1) := by decide +kernel
theorem dX7_size_3 : decode cX7_size 3 = .ok (.invokevirtual 37, 3) := by decide +kernel
theorem dX7_size_6 : decode cX7_size 6 = .ok (.bipush 10, 2) := by decide +kernel
theorem dX7_size_8 : decode cX7_size 8 = .ok (.if_icmp .ge 7, 3) := by decide +kernel
theorem dX7_size_11 : decode cX7_size 11 = .ok (.iconst 2, 1) := by decide +kernel
theorem dX7_size_12 : decode cX7_size 12 = .ok (.goto 4, 3) := by decide +kernel
theorem dX7_size_15 : decode cX7_size 15 = .ok (.iconst 3, 1) := by decide +kernel
theorem dX7_size_16 : decode cX7_size 16 = .ok (.ireturn, 1) := by decide +kernel
set_option maxRecDepth 200000 in
theorem ggX7_isPlace_X7_size : GoodIn wsX7_isPlace wsX7_size := goodIn_r _ [5, 6, 7, 8, 4, 9, 10, 32, 33, 34, 35, 36, 37, 38, 39, 40, 41, 42, 43, 44] rfl (by decide +kernel)
set_option maxRecDepth 200000 in
theorem gX7_isPlace_X7_size : GoodIn wsX7_isPlace (wsV RX7 67 RX7 yX7_size wsX7_size) := goodIn_app (goodIn_of _ (by decide +kernel)) ggX7_isPlace_X7_size
set_option maxRecDepth 200000 in
theorem ggX7_isPlace_X7_of : GoodIn wsX7_isPlace wsX7_of := goodIn_r _ [9, 10, 32, 33, 34, 35, 36, 37, 38, 39, 40, 41, 42, 43, 44] rfl (by decide +kernel)
set_option maxRecDepth 200000 in
theorem gX7_isPlace_X7_of : GoodIn wsX7_isPlace (wsV RX7 37 RX7 yX7_of wsX7_of) := goodIn_app (goodIn_of _ (by decide +kernel)) ggX7_isPlace_X7_of
set_option maxRecDepth 200000 in
theorem ggX7_isPlace_X7_closes : GoodIn wsX7_isPlace wsX7_closes := goodIn_r _ [14, 6, 7, 8, 4, 9, 10, 15, 16, 17, 18, 19, 20, 21, 22, 23, 24, 25, 26, 27, 28, 29, 30, 31, 32, 33, 34, 35, 36, 37, 38, 39, 40, 41, 42, 43, 44] rfl (by decide +kernel)
set_option maxRecDepth 200000 in
theorem gX7_isPlace_X7_closes : GoodIn wsX7_isPlace (wsV RX7 47 RX7 yX7_closes wsX7_closes) := goodIn_app (goodIn_of _ (by decide +kernel)) ggX7_isPlace_X7_closes
theorem dX7_isPlace_0 : decode cX7_isPlace 0 = .ok (.iload_n 2, 1) := by decide +kernel
theorem dX7_isPlace_1 : decode cX7_isPlace 1 = .ok (.aload_n 0, 1) := by decide +kernel
theorem dX7_isPlace_2 : decode cX7_isPlace 2 = .ok (.iload_n 1, 1) := by decide +kernel
theorem dX7_isPlace_3 : decode cX7_isPlace 3 = .ok (.invokevirtual 67, 3) := by decide +kernel
theorem dX7_isPlace_6 : decode cX7_isPlace 6 = .ok (.iadd, 1) := by decide +kernel
theorem dX7_isPlace_7 : decode cX7_isPlace 7 = .ok (.iconst 1, 1) := by decide +kernel
theorem dX7_isPlace_8 : decode cX7_isPlace 8 = .ok (.isub, 1) := by decide +kernel
theorem dX7_isPlace_9 : decode cX7_isPlace 9 = .ok (.aload_n 0, 1) := by decide +kernel
theorem dX7_isPlace_10 : decode cX7_isPlace 10 = .ok (.iload_n 1, 1) := by decide +kernel
theorem dX7_isPlace_11 : decode cX7_isPlace 11 = .ok (.iconst 2, 1) := by decide +kernel
theorem dX7_isPlace_12 : decode cX7_isPlace 12 = .ok (.invokevirtual 37, 3) := by decide +kernel
theorem dX7_isPlace_15 : decode cX7_isPlace 15 = .ok (.aload_n 0, 1) := by decide +kernel
theorem dX7_isPlace_16 : decode cX7_isPlace 16 = .ok (.iload_n 1, 1) := by decide +kernel
theorem dX7_isPlace_17 : decode cX7_isPlace 17 = .ok (.invokevirtual 47, 3) := by decide +kernel
theorem dX7_isPlace_20 : decode cX7_isPlace 20 = .ok (.ifCond .eq 7, 3) := by decide +kernel
theorem dX7_isPlace_23 : decode cX7_isPlace 23 = .ok (.iconst 1, 1) := by decide +kernel
theorem dX7_isPlace_24 : decode cX7_isPlace 24 = .ok (.goto 4, 3) := by decide +kernel
theorem dX7_isPlace_27 : decode cX7_isPlace 27 = .ok (.iconst 0, 1) := by decide +kernel
theorem dX7_isPlace_28 : decode cX7_isPlace 28 = .ok (.isub, 1) := by decide +kernel
theorem dX7_isPlace_29 : decode cX7_isPlace 29 = .ok (.if_icmp .gt 7, 3) := by decide +kernel
theorem dX7_isPlace_32 : decode cX7_isPlace 32 = .ok (.iconst 1, 1) := by decide +kernel
theorem dX7_isPlace_33 : decode cX7_isPlace 33 = .ok (.goto 4, 3) := by decide +kernel
theorem dX7_isPlace_36 : decode cX7_isPlace 36 = .ok (.iconst 0, 1) := by decide +kernel
theorem dX7_isPlace_37 : decode cX7_isPlace 37 = .ok (.ireturn, 1) := by decide +kernel
set_option maxRecDepth 200000 in
theorem ggX7_bends_X7_size : GoodIn wsX7_bends wsX7_size := goodIn_r _ [5, 6, 7, 8, 4, 9, 10, 42, 43, 44, 45, 46, 47, 48, 49, 50, 51, 52, 53, 54] rfl (by decide +kernel)
set_option maxRecDepth 200000 in
theorem gX7_bends_X7_size : GoodIn wsX7_bends (wsV RX7 67 RX7 yX7_size wsX7_size) := goodIn_app (goodIn_of _ (by decide +kernel)) ggX7_bends_X7_size
set_option maxRecDepth 200000 in
theorem ggX7_bends_X7_of : GoodIn wsX7_bends wsX7_of := goodIn_r _ [9, 10, 42, 43, 44, 45, 46, 47, 48, 49, 50, 51, 52, 53, 54] rfl (by decide +kernel)
set_option maxRecDepth 200000 in
theorem gX7_bends_X7_of : GoodIn wsX7_bends (wsV RX7 37 RX7 yX7_of wsX7_of) := goodIn_app (goodIn_of _ (by decide +kernel)) ggX7_bends_X7_of
set_option maxRecDepth 200000 in
theorem ggX7_bends_X7_in : GoodIn wsX7_bends wsX7_in := goodIn_r _ [13] rfl (by decide +kernel)
set_option maxRecDepth 200000 in
theorem gX7_bends_X7_in : GoodIn wsX7_bends (va_wsS RX7 26 yX7_in wsX7_in) := goodIn_app (goodIn_of _ (by decide +kernel)) ggX7_bends_X7_in
set_option maxRecDepth 200000 in
theorem ggX7_bends_X7_bend : GoodIn wsX7_bends wsX7_bend := goodIn_r _ [17, 6, 7, 8, 4, 9, 10, 18, 19, 20, 21, 22, 23, 24, 25, 26, 27, 28, 29, 30, 31, 32, 33, 34, 35, 36, 37, 38, 11, 12, 13, 39, 40, 41, 42, 43, 44, 45, 46, 47, 48, 49, 50, 51, 52, 53, 54] rfl (by decide +kernel)
set_option maxRecDepth 200000 in
theorem gX7_bends_X7_bend : GoodIn wsX7_bends (wsV RX7 70 RX7 yX7_bend wsX7_bend) := goodIn_app (goodIn_of _ (by decide +kernel)) ggX7_bends_X7_bend
theorem dX7_bends_0 : decode cX7_bends 0 = .ok (.iconst 0, 1) := by decide +kernel
theorem dX7_bends_1 : decode cX7_bends 1 = .ok (.istore_n 3, 1) := by decide +kernel
theorem dX7_bends_2 : decode cX7_bends 2 = .ok (.iload_n 2, 1) := by decide +kernel
theorem dX7_bends_3 : decode cX7_bends 3 = .ok (.iconst 1, 1) := by decide +kernel
theorem dX7_bends_4 : decode cX7_bends 4 = .ok (.isub, 1) := by decide +kernel
theorem dX7_bends_5 : decode cX7_bends 5 = .ok (.istore 4, 2) := by decide +kernel
theorem dX7_bends_7 : decode cX7_bends 7 = .ok (.iload 4, 2) := by decide +kernel
theorem dX7_bends_9 : decode cX7_bends 9 = .ok (.iload_n 2, 1) := by decide +kernel
theorem dX7_bends_10 : decode cX7_bends 10 = .ok (.aload_n 0, 1) := by decide +kernel
theorem dX7_bends_11 : decode cX7_bends 11 = .ok (.iload_n 1, 1) := by decide +kernel
theorem dX7_bends_12 : decode cX7_bends 12 = .ok (.invokevirtual 67, 3) := by decide +kernel
theorem dX7_bends_15 : decode cX7_bends 15 = .ok (.iadd, 1) := by decide +kernel
theorem dX7_bends_16 : decode cX7_bends 16 = .ok (.if_icmp .gt 38, 3) := by decide +kernel
theorem dX7_bends_19 : decode cX7_bends 19 = .ok (.iload_n 3, 1) := by decide +kernel
theorem dX7_bends_20 : decode cX7_bends 20 = .ok (.iload 4, 2) := by decide +kernel
theorem dX7_bends_22 : decode cX7_bends 22 = .ok (.iconst 0, 1) := by decide +kernel
theorem dX7_bends_23 : decode cX7_bends 23 = .ok (.aload_n 0, 1) := by decide +kernel
theorem dX7_bends_24 : decode cX7_bends 24 = .ok (.iload_n 1, 1) := by decide +kernel
theorem dX7_bends_25 : decode cX7_bends 25 = .ok (.iconst 2, 1) := by decide +kernel
theorem dX7_bends_26 : decode cX7_bends 26 = .ok (.invokevirtual 37, 3) := by decide +kernel
theorem dX7_bends_29 : decode cX7_bends 29 = .ok (.invokestatic 26, 3) := by decide +kernel
theorem dX7_bends_32 : decode cX7_bends 32 = .ok (.ifCond .eq 13, 3) := by decide +kernel
theorem dX7_bends_35 : decode cX7_bends 35 = .ok (.aload_n 0, 1) := by decide +kernel
theorem dX7_bends_36 : decode cX7_bends 36 = .ok (.iload_n 1, 1) := by decide +kernel
theorem dX7_bends_37 : decode cX7_bends 37 = .ok (.iload 4, 2) := by decide +kernel
theorem dX7_bends_39 : decode cX7_bends 39 = .ok (.invokevirtual 70, 3) := by decide +kernel
theorem dX7_bends_42 : decode cX7_bends 42 = .ok (.goto 4, 3) := by decide +kernel
theorem dX7_bends_45 : decode cX7_bends 45 = .ok (.iconst 0, 1) := by decide +kernel
theorem dX7_bends_46 : decode cX7_bends 46 = .ok (.iadd, 1) := by decide +kernel
theorem dX7_bends_47 : decode cX7_bends 47 = .ok (.istore_n 3, 1) := by decide +kernel
theorem dX7_bends_48 : decode cX7_bends 48 = .ok (.iinc 4 1, 3) := by decide +kernel
theorem dX7_bends_51 : decode cX7_bends 51 = .ok (.goto (-44), 3) := by decide +kernel
theorem dX7_bends_54 : decode cX7_bends 54 = .ok (.iload_n 3, 1) := by decide +kernel
theorem dX7_bends_55 : decode cX7_bends 55 = .ok (.ireturn, 1) := by decide +kernel
set_option maxRecDepth 200000 in
theorem ggX7_far_X7_apart : GoodIn wsX7_far wsX7_apart := goodIn_r _ [4] rfl (by decide +kernel)
set_option maxRecDepth 200000 in
theorem gX7_far_X7_apart : GoodIn wsX7_far (va_wsS RX7 61 yX7_apart wsX7_apart) := goodIn_app (goodIn_of _ (by decide +kernel)) ggX7_far_X7_apart
theorem dX7_far_0 : decode cX7_far 0 = .ok (.iload_n 1, 1) := by decide +kernel
theorem dX7_far_1 : decode cX7_far 1 = .ok (.bipush 24, 2) := by decide +kernel
theorem dX7_far_3 : decode cX7_far 3 = .ok (.irem, 1) := by decide +kernel
theorem dX7_far_4 : decode cX7_far 4 = .ok (.iload_n 2, 1) := by decide +kernel
theorem dX7_far_5 : decode cX7_far 5 = .ok (.bipush 24, 2) := by decide +kernel
theorem dX7_far_7 : decode cX7_far 7 = .ok (.irem, 1) := by decide +kernel
theorem dX7_far_8 : decode cX7_far 8 = .ok (.invokestatic 61, 3) := by decide +kernel
theorem dX7_far_11 : decode cX7_far 11 = .ok (.istore_n 3, 1) := by decide +kernel
theorem dX7_far_12 : decode cX7_far 12 = .ok (.iload_n 1, 1) := by decide +kernel
theorem dX7_far_13 : decode cX7_far 13 = .ok (.bipush 24, 2) := by decide +kernel
theorem dX7_far_15 : decode cX7_far 15 = .ok (.idiv, 1) := by decide +kernel
theorem dX7_far_16 : decode cX7_far 16 = .ok (.iload_n 2, 1) := by decide +kernel
theorem dX7_far_17 : decode cX7_far 17 = .ok (.bipush 24, 2) := by decide +kernel
theorem dX7_far_19 : decode cX7_far 19 = .ok (.idiv, 1) := by decide +kernel
theorem dX7_far_20 : decode cX7_far 20 = .ok (.invokestatic 61, 3) := by decide +kernel
theorem dX7_far_23 : decode cX7_far 23 = .ok (.istore 4, 2) := by decide +kernel
theorem dX7_far_25 : decode cX7_far 25 = .ok (.iload_n 3, 1) := by decide +kernel
theorem dX7_far_26 : decode cX7_far 26 = .ok (.iload 4, 2) := by decide +kernel
theorem dX7_far_28 : decode cX7_far 28 = .ok (.if_icmp .le 7, 3) := by decide +kernel
theorem dX7_far_31 : decode cX7_far 31 = .ok (.iload_n 3, 1) := by decide +kernel
theorem dX7_far_32 : decode cX7_far 32 = .ok (.goto 5, 3) := by decide +kernel
theorem dX7_far_35 : decode cX7_far 35 = .ok (.iload 4, 2) := by decide +kernel
theorem dX7_far_37 : decode cX7_far 37 = .ok (.ireturn, 1) := by decide +kernel
set_option maxRecDepth 200000 in
theorem ggX7_between_X7_size : GoodIn wsX7_between wsX7_size := goodIn_r _ [5, 6, 7, 8, 4, 9, 10, 31, 32, 33, 34, 35, 36, 37, 38, 39, 40, 41, 42, 43] rfl (by decide +kernel)
set_option maxRecDepth 200000 in
theorem gX7_between_X7_size : GoodIn wsX7_between (wsV RX7 67 RX7 yX7_size wsX7_size) := goodIn_app (goodIn_of _ (by decide +kernel)) ggX7_between_X7_size
set_option maxRecDepth 200000 in
theorem ggX7_between_X7_at : GoodIn wsX7_between wsX7_at := goodIn_r _ [14, 6, 7, 8, 4, 9, 10, 15, 16, 17, 18, 19, 20, 21, 22, 23, 31, 32, 33, 34, 35, 36, 37, 38, 39, 40, 41, 42, 43] rfl (by decide +kernel)
set_option maxRecDepth 200000 in
theorem gX7_between_X7_at : GoodIn wsX7_between (wsV RX7 41 RX7 yX7_at wsX7_at) := goodIn_app (goodIn_of _ (by decide +kernel)) ggX7_between_X7_at
set_option maxRecDepth 200000 in
theorem ggX7_between_X7_far : GoodIn wsX7_between wsX7_far := goodIn_r _ [27, 28, 29, 4, 30] rfl (by decide +kernel)
set_option maxRecDepth 200000 in
theorem gX7_between_X7_far : GoodIn wsX7_between (wsV RX7 73 RX7 yX7_far wsX7_far) := goodIn_app (goodIn_of _ (by decide +kernel)) ggX7_between_X7_far
theorem dX7_between_0 : decode cX7_between 0 = .ok (.bipush 99, 2) := by decide +kernel
theorem dX7_between_2 : decode cX7_between 2 = .ok (.istore 5, 2) := by decide +kernel
theorem dX7_between_4 : decode cX7_between 4 = .ok (.iload_n 2, 1) := by decide +kernel
theorem dX7_between_5 : decode cX7_between 5 = .ok (.istore 6, 2) := by decide +kernel
theorem dX7_between_7 : decode cX7_between 7 = .ok (.iload 6, 2) := by decide +kernel
theorem dX7_between_9 : decode cX7_between 9 = .ok (.iload_n 2, 1) := by decide +kernel
theorem dX7_between_10 : decode cX7_between 10 = .ok (.aload_n 0, 1) := by decide +kernel
theorem dX7_between_11 : decode cX7_between 11 = .ok (.iload_n 1, 1) := by decide +kernel
theorem dX7_between_12 : decode cX7_between 12 = .ok (.invokevirtual 67, 3) := by decide +kernel
theorem dX7_between_15 : decode cX7_between 15 = .ok (.iadd, 1) := by decide +kernel
theorem dX7_between_16 : decode cX7_between 16 = .ok (.if_icmp .ge 68, 3) := by decide +kernel
theorem dX7_between_19 : decode cX7_between 19 = .ok (.iload 4, 2) := by decide +kernel
theorem dX7_between_21 : decode cX7_between 21 = .ok (.istore 7, 2) := by decide +kernel
theorem dX7_between_23 : decode cX7_between 23 = .ok (.iload 7, 2) := by decide +kernel
theorem dX7_between_25 : decode cX7_between 25 = .ok (.iload 4, 2) := by decide +kernel
theorem dX7_between_27 : decode cX7_between 27 = .ok (.aload_n 0, 1) := by decide +kernel
theorem dX7_between_28 : decode cX7_between 28 = .ok (.iload_n 3, 1) := by decide +kernel
theorem dX7_between_29 : decode cX7_between 29 = .ok (.invokevirtual 67, 3) := by decide +kernel
theorem dX7_between_32 : decode cX7_between 32 = .ok (.iadd, 1) := by decide +kernel
theorem dX7_between_33 : decode cX7_between 33 = .ok (.if_icmp .ge 45, 3) := by decide +kernel
theorem dX7_between_36 : decode cX7_between 36 = .ok (.aload_n 0, 1) := by decide +kernel
theorem dX7_between_37 : decode cX7_between 37 = .ok (.aload_n 0, 1) := by decide +kernel
theorem dX7_between_38 : decode cX7_between 38 = .ok (.iload_n 1, 1) := by decide +kernel
theorem dX7_between_39 : decode cX7_between 39 = .ok (.iload 6, 2) := by decide +kernel
theorem dX7_between_41 : decode cX7_between 41 = .ok (.invokevirtual 41, 3) := by decide +kernel
theorem dX7_between_44 : decode cX7_between 44 = .ok (.aload_n 0, 1) := by decide +kernel
theorem dX7_between_45 : decode cX7_between 45 = .ok (.iload_n 3, 1) := by decide +kernel
theorem dX7_between_46 : decode cX7_between 46 = .ok (.iload 7, 2) := by decide +kernel
theorem dX7_between_48 : decode cX7_between 48 = .ok (.invokevirtual 41, 3) := by decide +kernel
theorem dX7_between_51 : decode cX7_between 51 = .ok (.invokevirtual 73, 3) := by decide +kernel
theorem dX7_between_54 : decode cX7_between 54 = .ok (.istore 8, 2) := by decide +kernel
theorem dX7_between_56 : decode cX7_between 56 = .ok (.iload 8, 2) := by decide +kernel
theorem dX7_between_58 : decode cX7_between 58 = .ok (.iload 5, 2) := by decide +kernel
theorem dX7_between_60 : decode cX7_between 60 = .ok (.if_icmp .ge 8, 3) := by decide +kernel
theorem dX7_between_63 : decode cX7_between 63 = .ok (.iload 8, 2) := by decide +kernel
theorem dX7_between_65 : decode cX7_between 65 = .ok (.goto 5, 3) := by decide +kernel
theorem dX7_between_68 : decode cX7_between 68 = .ok (.iload 5, 2) := by decide +kernel
theorem dX7_between_70 : decode cX7_between 70 = .ok (.istore 5, 2) := by decide +kernel
theorem dX7_between_72 : decode cX7_between 72 = .ok (.iinc 7 1, 3) := by decide +kernel
theorem dX7_between_75 : decode cX7_between 75 = .ok (.goto (-52), 3) := by decide +kernel
theorem dX7_between_78 : decode cX7_between 78 = .ok (.iinc 6 1, 3) := by decide +kernel
theorem dX7_between_81 : decode cX7_between 81 = .ok (.goto (-74), 3) := by decide +kernel
theorem dX7_between_84 : decode cX7_between 84 = .ok (.iload 5, 2) := by decide +kernel
theorem dX7_between_86 : decode cX7_between 86 = .ok (.ireturn, 1) := by decide +kernel
set_option maxRecDepth 200000 in
theorem ggX7_free_X7_of : GoodIn wsX7_free wsX7_of := goodIn_r _ [6, 1, 35, 36, 37, 38, 39, 40, 41, 42, 43, 44, 45, 46, 47] rfl (by decide +kernel)
set_option maxRecDepth 200000 in
theorem gX7_free_X7_of : GoodIn wsX7_free (wsV RX7 37 RX7 yX7_of wsX7_of) := goodIn_app (goodIn_of _ (by decide +kernel)) ggX7_free_X7_of
set_option maxRecDepth 200000 in
theorem ggX7_free_X7_between : GoodIn wsX7_free wsX7_between := goodIn_r _ [10, 11, 12, 13, 5, 14, 2, 3, 4, 6, 1, 15, 16, 17, 18, 19, 20, 21, 22, 23, 24, 25, 26, 27, 28, 29, 30, 31, 32, 33, 34, 35, 36, 37, 38, 39, 40, 41, 42, 43, 44, 45, 46, 47] rfl (by decide +kernel)
set_option maxRecDepth 200000 in
theorem gX7_free_X7_between : GoodIn wsX7_free (wsV RX7 76 RX7 yX7_between wsX7_between) := goodIn_app (goodIn_of _ (by decide +kernel)) ggX7_free_X7_between
theorem dX7_free_0 : decode cX7_free 0 = .ok (.bipush 99, 2) := by decide +kernel
theorem dX7_free_2 : decode cX7_free 2 = .ok (.istore_n 3, 1) := by decide +kernel
theorem dX7_free_3 : decode cX7_free 3 = .ok (.iconst 0, 1) := by decide +kernel
theorem dX7_free_4 : decode cX7_free 4 = .ok (.istore 4, 2) := by decide +kernel
theorem dX7_free_6 : decode cX7_free 6 = .ok (.iload 4, 2) := by decide +kernel
theorem dX7_free_8 : decode cX7_free 8 = .ok (.aload_n 0, 1) := by decide +kernel
theorem dX7_free_9 : decode cX7_free 9 = .ok (.getfield 7, 3) := by decide +kernel
theorem dX7_free_12 : decode cX7_free 12 = .ok (.iconst 0, 1) := by decide +kernel
theorem dX7_free_13 : decode cX7_free 13 = .ok (.iaload, 1) := by decide +kernel
theorem dX7_free_14 : decode cX7_free 14 = .ok (.if_icmp .ge 73, 3) := by decide +kernel
theorem dX7_free_17 : decode cX7_free 17 = .ok (.iload 4, 2) := by decide +kernel
theorem dX7_free_19 : decode cX7_free 19 = .ok (.iload_n 1, 1) := by decide +kernel
theorem dX7_free_20 : decode cX7_free 20 = .ok (.if_icmp .eq 18, 3) := by decide +kernel
theorem dX7_free_23 : decode cX7_free 23 = .ok (.aload_n 0, 1) := by decide +kernel
theorem dX7_free_24 : decode cX7_free 24 = .ok (.iload 4, 2) := by decide +kernel
theorem dX7_free_26 : decode cX7_free 26 = .ok (.iconst 3, 1) := by decide +kernel
theorem dX7_free_27 : decode cX7_free 27 = .ok (.invokevirtual 37, 3) := by decide +kernel
theorem dX7_free_30 : decode cX7_free 30 = .ok (.iconst (-1), 1) := by decide +kernel
theorem dX7_free_31 : decode cX7_free 31 = .ok (.if_icmp .eq 7, 3) := by decide +kernel
theorem dX7_free_34 : decode cX7_free 34 = .ok (.iconst 1, 1) := by decide +kernel
theorem dX7_free_35 : decode cX7_free 35 = .ok (.goto 4, 3) := by decide +kernel
theorem dX7_free_38 : decode cX7_free 38 = .ok (.iconst 0, 1) := by decide +kernel
theorem dX7_free_39 : decode cX7_free 39 = .ok (.istore 5, 2) := by decide +kernel
theorem dX7_free_41 : decode cX7_free 41 = .ok (.iload 5, 2) := by decide +kernel
theorem dX7_free_43 : decode cX7_free 43 = .ok (.ifCond .eq 21, 3) := by decide +kernel
theorem dX7_free_46 : decode cX7_free 46 = .ok (.aload_n 0, 1) := by decide +kernel
theorem dX7_free_47 : decode cX7_free 47 = .ok (.iload_n 1, 1) := by decide +kernel
theorem dX7_free_48 : decode cX7_free 48 = .ok (.iload_n 2, 1) := by decide +kernel
theorem dX7_free_49 : decode cX7_free 49 = .ok (.iload 4, 2) := by decide +kernel
theorem dX7_free_51 : decode cX7_free 51 = .ok (.aload_n 0, 1) := by decide +kernel
theorem dX7_free_52 : decode cX7_free 52 = .ok (.iload 4, 2) := by decide +kernel
theorem dX7_free_54 : decode cX7_free 54 = .ok (.iconst 3, 1) := by decide +kernel
theorem dX7_free_55 : decode cX7_free 55 = .ok (.invokevirtual 37, 3) := by decide +kernel
theorem dX7_free_58 : decode cX7_free 58 = .ok (.invokevirtual 76, 3) := by decide +kernel
theorem dX7_free_61 : decode cX7_free 61 = .ok (.goto 5, 3) := by decide +kernel
theorem dX7_free_64 : decode cX7_free 64 = .ok (.bipush 99, 2) := by decide +kernel
theorem dX7_free_66 : decode cX7_free 66 = .ok (.istore 6, 2) := by decide +kernel
theorem dX7_free_68 : decode cX7_free 68 = .ok (.iload 6, 2) := by decide +kernel
theorem dX7_free_70 : decode cX7_free 70 = .ok (.iload_n 3, 1) := by decide +kernel
theorem dX7_free_71 : decode cX7_free 71 = .ok (.if_icmp .ge 8, 3) := by decide +kernel
theorem dX7_free_74 : decode cX7_free 74 = .ok (.iload 6, 2) := by decide +kernel
theorem dX7_free_76 : decode cX7_free 76 = .ok (.goto 4, 3) := by decide +kernel
theorem dX7_free_79 : decode cX7_free 79 = .ok (.iload_n 3, 1) := by decide +kernel
theorem dX7_free_80 : decode cX7_free 80 = .ok (.istore_n 3, 1) := by decide +kernel
theorem dX7_free_81 : decode cX7_free 81 = .ok (.iinc 4 1, 3) := by decide +kernel
theorem dX7_free_84 : decode cX7_free 84 = .ok (.goto (-78), 3) := by decide +kernel
theorem dX7_free_87 : decode cX7_free 87 = .ok (.iload_n 3, 1) := by decide +kernel
theorem dX7_free_88 : decode cX7_free 88 = .ok (.ireturn, 1) := by decide +kernel
set_option maxRecDepth 200000 in
theorem ggX7_whyNoLabel_X7_isPlace : GoodIn wsX7_whyNoLabel wsX7_isPlace := goodIn_r _ [6, 7, 8, 9, 5, 10, 11, 12, 13, 14, 1, 15, 16, 17, 18, 19, 20, 21, 22, 23, 24, 25, 26, 27, 28, 29, 30, 31, 32, 33, 34, 35, 62, 63, 64, 65, 66, 67, 68, 69, 70, 71, 72, 73, 74] rfl (by decide +kernel)
set_option maxRecDepth 200000 in
theorem gX7_whyNoLabel_X7_isPlace : GoodIn wsX7_whyNoLabel (wsV RX7 80 RX7 yX7_isPlace wsX7_isPlace) := goodIn_app (goodIn_of _ (by decide +kernel)) ggX7_whyNoLabel_X7_isPlace
set_option maxRecDepth 200000 in
theorem ggX7_whyNoLabel_X7_bends : GoodIn wsX7_whyNoLabel wsX7_bends := goodIn_r _ [39, 7, 8, 9, 5, 10, 11, 12, 13, 14, 1, 30, 31, 32, 40, 41, 42, 43, 44, 45, 46, 47, 48, 49, 15, 16, 17, 18, 19, 20, 21, 22, 23, 24, 25, 26, 27, 28, 29, 33, 34, 35, 62, 63, 64, 65, 66, 67, 68, 69, 70, 71, 72, 73, 74] rfl (by decide +kernel)
set_option maxRecDepth 200000 in
theorem gX7_whyNoLabel_X7_bends : GoodIn wsX7_whyNoLabel (wsV RX7 83 RX7 yX7_bends wsX7_bends) := goodIn_app (goodIn_of _ (by decide +kernel)) ggX7_whyNoLabel_X7_bends
set_option maxRecDepth 200000 in
theorem ggX7_whyNoLabel_X7_at : GoodIn wsX7_whyNoLabel wsX7_at := goodIn_r _ [26, 11, 12, 13, 5, 14, 1, 27, 28, 29, 30, 31, 32, 33, 34, 35, 62, 63, 64, 65, 66, 67, 68, 69, 70, 71, 72, 73, 74] rfl (by decide +kernel)
set_option maxRecDepth 200000 in
theorem gX7_whyNoLabel_X7_at : GoodIn wsX7_whyNoLabel (wsV RX7 41 RX7 yX7_at wsX7_at) := goodIn_app (goodIn_of _ (by decide +kernel)) ggX7_whyNoLabel_X7_at
set_option maxRecDepth 200000 in
theorem ggX7_whyNoLabel_X7_size : GoodIn wsX7_whyNoLabel wsX7_size := goodIn_r _ [10, 11, 12, 13, 5, 14, 1, 62, 63, 64, 65, 66, 67, 68, 69, 70, 71, 72, 73, 74] rfl (by decide +kernel)
set_option maxRecDepth 200000 in
theorem gX7_whyNoLabel_X7_size : GoodIn wsX7_whyNoLabel (wsV RX7 67 RX7 yX7_size wsX7_size) := goodIn_app (goodIn_of _ (by decide +kernel)) ggX7_whyNoLabel_X7_size
set_option maxRecDepth 200000 in
theorem ggX7_whyNoLabel_X7_apart : GoodIn wsX7_whyNoLabel wsX7_apart := goodIn_r _ [49] rfl (by decide +kernel)
set_option maxRecDepth 200000 in
theorem gX7_whyNoLabel_X7_apart : GoodIn wsX7_whyNoLabel (va_wsS RX7 61 yX7_apart wsX7_apart) := goodIn_app (goodIn_of _ (by decide +kernel)) ggX7_whyNoLabel_X7_apart
set_option maxRecDepth 200000 in
theorem ggX7_whyNoLabel_X7_free : GoodIn wsX7_whyNoLabel wsX7_free := goodIn_r _ [53, 1, 11, 12, 13, 5, 14, 54, 55, 56, 57, 7, 8, 9, 10, 23, 24, 25, 26, 27, 28, 29, 30, 31, 32, 33, 34, 35, 58, 59, 60, 61, 47, 48, 49, 62, 63, 64, 65, 66, 67, 68, 69, 70, 71, 72, 73, 74] rfl (by decide +kernel)
set_option maxRecDepth 200000 in
theorem gX7_whyNoLabel_X7_free : GoodIn wsX7_whyNoLabel (wsV RX7 86 RX7 yX7_free wsX7_free) := goodIn_app (goodIn_of _ (by decide +kernel)) ggX7_whyNoLabel_X7_free
theorem dX7_whyNoLabel_0 : decode cX7_whyNoLabel 0 = .ok (.aload_n 0, 1) := by decide +kernel
theorem dX7_whyNoLabel_1 : decode cX7_whyNoLabel 1 = .ok (.iload_n 1, 1) := by decide +kernel
theorem dX7_whyNoLabel_2 : decode cX7_whyNoLabel 2 = .ok (.iload_n 2, 1) := by decide +kernel
theorem dX7_whyNoLabel_3 : decode cX7_whyNoLabel 3 = .ok (.invokevirtual 80, 3) := by decide +kernel
theorem dX7_whyNoLabel_6 : decode cX7_whyNoLabel 6 = .ok (.ifCond .ne 5, 3) := by decide +kernel
theorem dX7_whyNoLabel_9 : decode cX7_whyNoLabel 9 = .ok (.iconst 1, 1) := by decide +kernel
theorem dX7_whyNoLabel_10 : decode cX7_whyNoLabel 10 = .ok (.ireturn, 1) := by decide +kernel
theorem dX7_whyNoLabel_11 : decode cX7_whyNoLabel 11 = .ok (.aload_n 0, 1) := by decide +kernel
theorem dX7_whyNoLabel_12 : decode cX7_whyNoLabel 12 = .ok (.iload_n 1, 1) := by decide +kernel
theorem dX7_whyNoLabel_13 : decode cX7_whyNoLabel 13 = .ok (.iload_n 2, 1) := by decide +kernel
theorem dX7_whyNoLabel_14 : decode cX7_whyNoLabel 14 = .ok (.invokevirtual 83, 3) := by decide +kernel
theorem dX7_whyNoLabel_17 : decode cX7_whyNoLabel 17 = .ok (.iconst 1, 1) := by decide +kernel
theorem dX7_whyNoLabel_18 : decode cX7_whyNoLabel 18 = .ok (.if_icmp .le 5, 3) := by decide +kernel
theorem dX7_whyNoLabel_21 : decode cX7_whyNoLabel 21 = .ok (.iconst 2, 1) := by decide +kernel
theorem dX7_whyNoLabel_22 : decode cX7_whyNoLabel 22 = .ok (.ireturn, 1) := by decide +kernel
theorem dX7_whyNoLabel_23 : decode cX7_whyNoLabel 23 = .ok (.aload_n 0, 1) := by decide +kernel
theorem dX7_whyNoLabel_24 : decode cX7_whyNoLabel 24 = .ok (.iload_n 1, 1) := by decide +kernel
theorem dX7_whyNoLabel_25 : decode cX7_whyNoLabel 25 = .ok (.iload_n 2, 1) := by decide +kernel
theorem dX7_whyNoLabel_26 : decode cX7_whyNoLabel 26 = .ok (.invokevirtual 41, 3) := by decide +kernel
theorem dX7_whyNoLabel_29 : decode cX7_whyNoLabel 29 = .ok (.istore_n 3, 1) := by decide +kernel
theorem dX7_whyNoLabel_30 : decode cX7_whyNoLabel 30 = .ok (.aload_n 0, 1) := by decide +kernel
theorem dX7_whyNoLabel_31 : decode cX7_whyNoLabel 31 = .ok (.iload_n 1, 1) := by decide +kernel
theorem dX7_whyNoLabel_32 : decode cX7_whyNoLabel 32 = .ok (.iload_n 2, 1) := by decide +kernel
theorem dX7_whyNoLabel_33 : decode cX7_whyNoLabel 33 = .ok (.aload_n 0, 1) := by decide +kernel
theorem dX7_whyNoLabel_34 : decode cX7_whyNoLabel 34 = .ok (.iload_n 1, 1) := by decide +kernel
theorem dX7_whyNoLabel_35 : decode cX7_whyNoLabel 35 = .ok (.invokevirtual 67, 3) := by decide +kernel
theorem dX7_whyNoLabel_38 : decode cX7_whyNoLabel 38 = .ok (.iadd, 1) := by decide +kernel
theorem dX7_whyNoLabel_39 : decode cX7_whyNoLabel 39 = .ok (.iconst 1, 1) := by decide +kernel
theorem dX7_whyNoLabel_40 : decode cX7_whyNoLabel 40 = .ok (.isub, 1) := by decide +kernel
theorem dX7_whyNoLabel_41 : decode cX7_whyNoLabel 41 = .ok (.invokevirtual 41, 3) := by decide +kernel
theorem dX7_whyNoLabel_44 : decode cX7_whyNoLabel 44 = .ok (.istore 4, 2) := by decide +kernel
theorem dX7_whyNoLabel_46 : decode cX7_whyNoLabel 46 = .ok (.iload_n 3, 1) := by decide +kernel
theorem dX7_whyNoLabel_47 : decode cX7_whyNoLabel 47 = .ok (.bipush 24, 2) := by decide +kernel
theorem dX7_whyNoLabel_49 : decode cX7_whyNoLabel 49 = .ok (.idiv, 1) := by decide +kernel
theorem dX7_whyNoLabel_50 : decode cX7_whyNoLabel 50 = .ok (.iload 4, 2) := by decide +kernel
