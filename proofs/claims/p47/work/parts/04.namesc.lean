theorem dX6_init_15 : decode cX6_init 15 = .ok (.aload_n 0, 1) := by decide +kernel
theorem dX6_init_16 : decode cX6_init 16 = .ok (.new 16, 3) := by decide +kernel
theorem dX6_init_19 : decode cX6_init 19 = .ok (.dup, 1) := by decide +kernel
theorem dX6_init_20 : decode cX6_init 20 = .ok (.invokespecial 18, 3) := by decide +kernel
theorem dX6_init_23 : decode cX6_init 23 = .ok (.putfield 19, 3) := by decide +kernel
theorem dX6_init_26 : decode cX6_init 26 = .ok (.aload_n 0, 1) := by decide +kernel
theorem dX6_init_27 : decode cX6_init 27 = .ok (.new 23, 3) := by decide +kernel
theorem dX6_init_30 : decode cX6_init 30 = .ok (.dup, 1) := by decide +kernel
theorem dX6_init_31 : decode cX6_init 31 = .ok (.invokespecial 25, 3) := by decide +kernel
theorem dX6_init_34 : decode cX6_init 34 = .ok (.putfield 26, 3) := by decide +kernel
theorem dX6_init_37 : decode cX6_init 37 = .ok (.aload_n 0, 1) := by decide +kernel
theorem dX6_init_38 : decode cX6_init 38 = .ok (.new 30, 3) := by decide +kernel
theorem dX6_init_41 : decode cX6_init 41 = .ok (.dup, 1) := by decide +kernel
theorem dX6_init_42 : decode cX6_init 42 = .ok (.invokespecial 32, 3) := by decide +kernel
theorem dX6_init_45 : decode cX6_init 45 = .ok (.putfield 33, 3) := by decide +kernel
theorem dX6_init_48 : decode cX6_init 48 = .ok (.return_, 1) := by decide +kernel
set_option maxRecDepth 200000 in
theorem ggX6_begin_X6_requirePoint : GoodIn wsX6_begin wsX6_requirePoint := goodIn_ca (goodIn_r _ [8, 9, 10, 11, 12, 7, 13] rfl (by decide +kernel)) (goodIn_sub (fun _ h => List.mem_cons_of_mem _ (List.mem_append_left _ (List.mem_append_right _ h))) (by decide +kernel))
set_option maxRecDepth 200000 in
theorem gX6_begin_X6_requirePoint : GoodIn wsX6_begin (va_wsS RX6 37 yX6_requirePoint wsX6_requirePoint) := goodIn_app (goodIn_of _ (by decide +kernel)) ggX6_begin_X6_requirePoint
set_option maxRecDepth 200000 in
theorem ggX6_begin_X6_requireLevel : GoodIn wsX6_begin wsX6_requireLevel := goodIn_ca (goodIn_r _ [16, 17, 18] rfl (by decide +kernel)) (goodIn_sub (fun _ h => List.mem_cons_of_mem _ (List.mem_append_right _ h)) (by decide +kernel))
set_option maxRecDepth 200000 in
theorem gX6_begin_X6_requireLevel : GoodIn wsX6_begin (va_wsS RX6 41 yX6_requireLevel wsX6_requireLevel) := goodIn_app (goodIn_of _ (by decide +kernel)) ggX6_begin_X6_requireLevel
set_option maxRecDepth 200000 in
theorem ggX6_begin_X4_hasRoomAt : GoodIn wsX6_begin wsX4_hasRoomAt := goodIn_r _ [23, 24, 25, 26, 27, 22, 28, 29, 30, 31, 32, 33, 34, 35, 36, 37, 38, 39, 40, 41, 42, 77, 78, 79, 80, 81, 82] rfl (by decide +kernel)
set_option maxRecDepth 200000 in
theorem gX6_begin_X4_hasRoomAt : GoodIn wsX6_begin (wsV RX6 44 RX4 yX4_hasRoomAt wsX4_hasRoomAt) := goodIn_app (goodIn_of _ (by decide +kernel)) ggX6_begin_X4_hasRoomAt
set_option maxRecDepth 200000 in
theorem ggX6_begin_X1_save : GoodIn wsX6_begin wsX1_save := goodIn_r _ [47, 48, 49, 50, 51, 52, 46, 53, 54, 55, 56, 57, 58, 59, 60, 22, 61, 24, 62, 63, 64, 65, 66, 67, 37, 68, 42, 83, 84, 85, 86, 87, 77, 78, 79, 80, 81, 82] rfl (by decide +kernel)
set_option maxRecDepth 200000 in
theorem gX6_begin_X1_save : GoodIn wsX6_begin (wsV RX6 55 RX1 yX1_save wsX1_save) := goodIn_app (goodIn_of _ (by decide +kernel)) ggX6_begin_X1_save
set_option maxRecDepth 200000 in
theorem ggX6_begin_X4_addLine : GoodIn wsX6_begin wsX4_addLine := goodIn_r _ [72, 24, 63, 37, 68, 42, 77, 78, 79, 80, 81, 82] rfl (by decide +kernel)
set_option maxRecDepth 200000 in
theorem gX6_begin_X4_addLine : GoodIn wsX6_begin (wsV RX6 59 RX4 yX4_addLine wsX4_addLine) := goodIn_app (goodIn_of _ (by decide +kernel)) ggX6_begin_X4_addLine
theorem dX6_begin_0 : decode cX6_begin 0 = .ok (.iload_n 2, 1) := by decide +kernel
theorem dX6_begin_1 : decode cX6_begin 1 = .ok (.invokestatic 37, 3) := by decide +kernel
theorem dX6_begin_4 : decode cX6_begin 4 = .ok (.iload_n 1, 1) := by decide +kernel
theorem dX6_begin_5 : decode cX6_begin 5 = .ok (.invokestatic 41, 3) := by decide +kernel
theorem dX6_begin_8 : decode cX6_begin 8 = .ok (.aload_n 0, 1) := by decide +kernel
theorem dX6_begin_9 : decode cX6_begin 9 = .ok (.getfield 10, 3) := by decide +kernel
theorem dX6_begin_12 : decode cX6_begin 12 = .ok (.iload_n 2, 1) := by decide +kernel
theorem dX6_begin_13 : decode cX6_begin 13 = .ok (.invokevirtual 44, 3) := by decide +kernel
theorem dX6_begin_16 : decode cX6_begin 16 = .ok (.ifCond .ne 13, 3) := by decide +kernel
theorem dX6_begin_19 : decode cX6_begin 19 = .ok (.new 48, 3) := by decide +kernel
theorem dX6_begin_22 : decode cX6_begin 22 = .ok (.dup, 1) := by decide +kernel
theorem dX6_begin_23 : decode cX6_begin 23 = .ok (.ldc 50, 2) := by decide +kernel
theorem dX6_begin_25 : decode cX6_begin 25 = .ok (.invokespecial 52, 3) := by decide +kernel
theorem dX6_begin_28 : decode cX6_begin 28 = .ok (.athrow, 1) := by decide +kernel
theorem dX6_begin_29 : decode cX6_begin 29 = .ok (.aload_n 0, 1) := by decide +kernel
theorem dX6_begin_30 : decode cX6_begin 30 = .ok (.getfield 19, 3) := by decide +kernel
theorem dX6_begin_33 : decode cX6_begin 33 = .ok (.aload_n 0, 1) := by decide +kernel
theorem dX6_begin_34 : decode cX6_begin 34 = .ok (.getfield 10, 3) := by decide +kernel
theorem dX6_begin_37 : decode cX6_begin 37 = .ok (.invokevirtual 55, 3) := by decide +kernel
theorem dX6_begin_40 : decode cX6_begin 40 = .ok (.aload_n 0, 1) := by decide +kernel
theorem dX6_begin_41 : decode cX6_begin 41 = .ok (.getfield 10, 3) := by decide +kernel
theorem dX6_begin_44 : decode cX6_begin 44 = .ok (.iload_n 1, 1) := by decide +kernel
theorem dX6_begin_45 : decode cX6_begin 45 = .ok (.iload_n 2, 1) := by decide +kernel
theorem dX6_begin_46 : decode cX6_begin 46 = .ok (.invokevirtual 59, 3) := by decide +kernel
theorem dX6_begin_49 : decode cX6_begin 49 = .ok (.ireturn, 1) := by decide +kernel
set_option maxRecDepth 200000 in
theorem ggX6_step_X6_requireLine : GoodIn wsX6_step wsX6_requireLine := goodIn_ca (goodIn_r _ [9, 10, 11, 3, 12, 13, 14, 15, 16, 17, 106, 107, 108, 109, 110, 111, 112, 113, 114, 115] rfl (by decide +kernel)) (goodIn_sub (fun _ h => List.mem_cons_of_mem _ (List.mem_append_left _ (List.mem_append_right _ h))) (by decide +kernel))
set_option maxRecDepth 200000 in
theorem gX6_step_X6_requireLine : GoodIn wsX6_step (wsV RX6 63 RX6 yX6_requireLine wsX6_requireLine) := goodIn_app (goodIn_of _ (by decide +kernel)) ggX6_step_X6_requireLine
set_option maxRecDepth 200000 in
theorem ggX6_step_X6_requireDirection : GoodIn wsX6_step wsX6_requireDirection := goodIn_ca (goodIn_r _ [20, 21, 22, 23, 24, 8, 25] rfl (by decide +kernel)) (goodIn_sub (fun _ h => List.mem_cons_of_mem _ (List.mem_append_right _ h)) (by decide +kernel))
set_option maxRecDepth 200000 in
theorem gX6_step_X6_requireDirection : GoodIn wsX6_step (va_wsS RX6 66 yX6_requireDirection wsX6_requireDirection) := goodIn_app (goodIn_of _ (by decide +kernel)) ggX6_step_X6_requireDirection
set_option maxRecDepth 200000 in
theorem ggX6_step_X4_reasonAgainstStep : GoodIn wsX6_step wsX4_reasonAgainstStep := goodIn_r _ [29, 30, 31, 32, 15, 33, 17, 34, 35, 36, 37, 38, 39, 40, 41, 42, 43, 44, 8, 45, 46, 47, 48, 49, 50, 23, 24, 25, 51, 52, 53, 54, 55, 56, 57, 58, 59, 60, 61, 62, 63, 64, 65, 66, 67, 68, 69, 70, 71, 72, 73, 74, 110, 111, 112, 113, 114, 115] rfl (by decide +kernel)
set_option maxRecDepth 200000 in
theorem gX6_step_X4_reasonAgainstStep : GoodIn wsX6_step (wsV RX6 69 RX4 yX4_reasonAgainstStep wsX4_reasonAgainstStep) := goodIn_app (goodIn_of _ (by decide +kernel)) ggX6_step_X4_reasonAgainstStep
set_option maxRecDepth 200000 in
theorem ggX6_step_X1_save : GoodIn wsX6_step wsX1_save := goodIn_r _ [79, 80, 81, 82, 83, 84, 78, 85, 86, 87, 88, 89, 90, 91, 92, 15, 93, 17, 94, 95, 96, 97, 98, 99, 34, 100, 35, 116, 117, 118, 119, 120, 110, 111, 112, 113, 114, 115] rfl (by decide +kernel)
set_option maxRecDepth 200000 in
theorem gX6_step_X1_save : GoodIn wsX6_step (wsV RX6 55 RX1 yX1_save wsX1_save) := goodIn_app (goodIn_of _ (by decide +kernel)) ggX6_step_X1_save
set_option maxRecDepth 200000 in
theorem ggX6_step_X4_addStep : GoodIn wsX6_step wsX4_addStep := goodIn_r _ [104, 35, 34, 36, 37, 38, 15, 39, 17, 40, 41, 42, 43, 44, 8, 45, 46, 47, 48, 49, 50, 23, 24, 25, 51, 52, 53, 54, 55, 56, 110, 111, 112, 113, 114, 115] rfl (by decide +kernel)
set_option maxRecDepth 200000 in
theorem gX6_step_X4_addStep : GoodIn wsX6_step (wsV RX6 74 RX4 yX4_addStep wsX4_addStep) := goodIn_app (goodIn_of _ (by decide +kernel)) ggX6_step_X4_addStep
set_option maxRecDepth 200000 in
theorem ggX6_step_X4_isRing : GoodIn wsX6_step wsX4_isRing := goodIn_r _ [33, 17, 34, 35, 110, 111, 112, 113, 114, 115] rfl (by decide +kernel)
set_option maxRecDepth 200000 in
theorem gX6_step_X4_isRing : GoodIn wsX6_step (wsV RX6 78 RX4 yX4_isRing wsX4_isRing) := goodIn_app (goodIn_of _ (by decide +kernel)) ggX6_step_X4_isRing
theorem dX6_step_0 : decode cX6_step 0 = .ok (.aload_n 0, 1) := by decide +kernel
theorem dX6_step_1 : decode cX6_step 1 = .ok (.iload_n 1, 1) := by decide +kernel
theorem dX6_step_2 : decode cX6_step 2 = .ok (.invokevirtual 63, 3) := by decide +kernel
theorem dX6_step_5 : decode cX6_step 5 = .ok (.iload_n 2, 1) := by decide +kernel
theorem dX6_step_6 : decode cX6_step 6 = .ok (.invokestatic 66, 3) := by decide +kernel
theorem dX6_step_9 : decode cX6_step 9 = .ok (.aload_n 0, 1) := by decide +kernel
theorem dX6_step_10 : decode cX6_step 10 = .ok (.getfield 10, 3) := by decide +kernel
theorem dX6_step_13 : decode cX6_step 13 = .ok (.iload_n 1, 1) := by decide +kernel
theorem dX6_step_14 : decode cX6_step 14 = .ok (.iload_n 2, 1) := by decide +kernel
theorem dX6_step_15 : decode cX6_step 15 = .ok (.invokevirtual 69, 3) := by decide +kernel
theorem dX6_step_18 : decode cX6_step 18 = .ok (.ifCond .eq 13, 3) := by decide +kernel
theorem dX6_step_21 : decode cX6_step 21 = .ok (.new 48, 3) := by decide +kernel
theorem dX6_step_24 : decode cX6_step 24 = .ok (.dup, 1) := by decide +kernel
theorem dX6_step_25 : decode cX6_step 25 = .ok (.ldc 72, 2) := by decide +kernel
theorem dX6_step_27 : decode cX6_step 27 = .ok (.invokespecial 52, 3) := by decide +kernel
theorem dX6_step_30 : decode cX6_step 30 = .ok (.athrow, 1) := by decide +kernel
theorem dX6_step_31 : decode cX6_step 31 = .ok (.aload_n 0, 1) := by decide +kernel
theorem dX6_step_32 : decode cX6_step 32 = .ok (.getfield 19, 3) := by decide +kernel
theorem dX6_step_35 : decode cX6_step 35 = .ok (.aload_n 0, 1) := by decide +kernel
theorem dX6_step_36 : decode cX6_step 36 = .ok (.getfield 10, 3) := by decide +kernel
theorem dX6_step_39 : decode cX6_step 39 = .ok (.invokevirtual 55, 3) := by decide +kernel
theorem dX6_step_42 : decode cX6_step 42 = .ok (.aload_n 0, 1) := by decide +kernel
theorem dX6_step_43 : decode cX6_step 43 = .ok (.getfield 10, 3) := by decide +kernel
theorem dX6_step_46 : decode cX6_step 46 = .ok (.iload_n 1, 1) := by decide +kernel
theorem dX6_step_47 : decode cX6_step 47 = .ok (.iload_n 2, 1) := by decide +kernel
theorem dX6_step_48 : decode cX6_step 48 = .ok (.invokevirtual 74, 3) := by decide +kernel
theorem dX6_step_51 : decode cX6_step 51 = .ok (.aload_n 0, 1) := by decide +kernel
theorem dX6_step_52 : decode cX6_step 52 = .ok (.getfield 10, 3) := by decide +kernel
theorem dX6_step_55 : decode cX6_step 55 = .ok (.iload_n 1, 1) := by decide +kernel
theorem dX6_step_56 : decode cX6_step 56 = .ok (.invokevirtual 78, 3) := by decide +kernel
theorem dX6_step_59 : decode cX6_step 59 = .ok (.ireturn, 1) := by decide +kernel
set_option maxRecDepth 200000 in
theorem ggX6_wipe_X6_requireLine : GoodIn wsX6_wipe wsX6_requireLine := goodIn_ca (goodIn_r _ [7, 8, 9, 2, 10, 11, 12, 13, 14, 15, 57, 58, 59, 60, 61, 62, 63, 64, 65, 66] rfl (by decide +kernel)) (goodIn_sub (fun _ h => List.mem_cons_of_mem _ (List.mem_append_right _ h)) (by decide +kernel))
set_option maxRecDepth 200000 in
theorem gX6_wipe_X6_requireLine : GoodIn wsX6_wipe (wsV RX6 63 RX6 yX6_requireLine wsX6_requireLine) := goodIn_app (goodIn_of _ (by decide +kernel)) ggX6_wipe_X6_requireLine
set_option maxRecDepth 200000 in
theorem ggX6_wipe_X1_save : GoodIn wsX6_wipe wsX1_save := goodIn_r _ [20, 21, 22, 23, 24, 25, 19, 26, 27, 28, 29, 30, 31, 32, 33, 13, 34, 15, 35, 36, 37, 38, 39, 40, 41, 42, 43, 67, 68, 69, 70, 71, 61, 62, 63, 64, 65, 66] rfl (by decide +kernel)
set_option maxRecDepth 200000 in
theorem gX6_wipe_X1_save : GoodIn wsX6_wipe (wsV RX6 55 RX1 yX1_save wsX1_save) := goodIn_app (goodIn_of _ (by decide +kernel)) ggX6_wipe_X1_save
set_option maxRecDepth 200000 in
theorem ggX6_wipe_X4_removeLine : GoodIn wsX6_wipe wsX4_removeLine := goodIn_r _ [47, 36, 41, 42, 43, 15, 48, 11, 12, 13, 14, 49, 50, 51, 52, 37, 38, 39, 40, 61, 62, 63, 64, 65, 66] rfl (by decide +kernel)
set_option maxRecDepth 200000 in
theorem gX6_wipe_X4_removeLine : GoodIn wsX6_wipe (wsV RX6 81 RX4 yX4_removeLine wsX4_removeLine) := goodIn_app (goodIn_of _ (by decide +kernel)) ggX6_wipe_X4_removeLine
set_option maxRecDepth 200000 in
theorem ggX6_wipe_X4_lineCount : GoodIn wsX6_wipe wsX4_lineCount := goodIn_r _ [56, 15, 61, 62, 63, 64, 65, 66] rfl (by decide +kernel)
set_option maxRecDepth 200000 in
theorem gX6_wipe_X4_lineCount : GoodIn wsX6_wipe (wsV RX6 84 RX4 yX4_lineCount wsX4_lineCount) := goodIn_app (goodIn_of _ (by decide +kernel)) ggX6_wipe_X4_lineCount
theorem dX6_wipe_0 : decode cX6_wipe 0 = .ok (.aload_n 0, 1) := by decide +kernel
theorem dX6_wipe_1 : decode cX6_wipe 1 = .ok (.iload_n 1, 1) := by decide +kernel
theorem dX6_wipe_2 : decode cX6_wipe 2 = .ok (.invokevirtual 63, 3) := by decide +kernel
theorem dX6_wipe_5 : decode cX6_wipe 5 = .ok (.aload_n 0, 1) := by decide +kernel
theorem dX6_wipe_6 : decode cX6_wipe 6 = .ok (.getfield 19, 3) := by decide +kernel
theorem dX6_wipe_9 : decode cX6_wipe 9 = .ok (.aload_n 0, 1) := by decide +kernel
theorem dX6_wipe_10 : decode cX6_wipe 10 = .ok (.getfield 10, 3) := by decide +kernel
theorem dX6_wipe_13 : decode cX6_wipe 13 = .ok (.invokevirtual 55, 3) := by decide +kernel
theorem dX6_wipe_16 : decode cX6_wipe 16 = .ok (.aload_n 0, 1) := by decide +kernel
theorem dX6_wipe_17 : decode cX6_wipe 17 = .ok (.getfield 10, 3) := by decide +kernel
theorem dX6_wipe_20 : decode cX6_wipe 20 = .ok (.iload_n 1, 1) := by decide +kernel
theorem dX6_wipe_21 : decode cX6_wipe 21 = .ok (.invokevirtual 81, 3) := by decide +kernel
theorem dX6_wipe_24 : decode cX6_wipe 24 = .ok (.pop, 1) := by decide +kernel
theorem dX6_wipe_25 : decode cX6_wipe 25 = .ok (.aload_n 0, 1) := by decide +kernel
theorem dX6_wipe_26 : decode cX6_wipe 26 = .ok (.getfield 10, 3) := by decide +kernel
theorem dX6_wipe_29 : decode cX6_wipe 29 = .ok (.invokevirtual 84, 3) := by decide +kernel
theorem dX6_wipe_32 : decode cX6_wipe 32 = .ok (.ireturn, 1) := by decide +kernel
set_option maxRecDepth 200000 in
theorem ggX6_setLevel_X6_requireLine : GoodIn wsX6_setLevel wsX6_requireLine := goodIn_ca (goodIn_r _ [7, 8, 9, 2, 10, 11, 12, 13, 14, 15, 61, 62, 63, 64, 65, 66, 67, 68, 69, 70] rfl (by decide +kernel)) (goodIn_sub (fun _ h => List.mem_cons_of_mem _ (List.mem_append_left _ (List.mem_append_right _ h))) (by decide +kernel))
set_option maxRecDepth 200000 in
theorem gX6_setLevel_X6_requireLine : GoodIn wsX6_setLevel (wsV RX6 63 RX6 yX6_requireLine wsX6_requireLine) := goodIn_app (goodIn_of _ (by decide +kernel)) ggX6_setLevel_X6_requireLine
set_option maxRecDepth 200000 in
theorem ggX6_setLevel_X6_requireLevel : GoodIn wsX6_setLevel wsX6_requireLevel := goodIn_ca (goodIn_r _ [18, 19, 20] rfl (by decide +kernel)) (goodIn_sub (fun _ h => List.mem_cons_of_mem _ (List.mem_append_right _ h)) (by decide +kernel))
set_option maxRecDepth 200000 in
theorem gX6_setLevel_X6_requireLevel : GoodIn wsX6_setLevel (va_wsS RX6 41 yX6_requireLevel wsX6_requireLevel) := goodIn_app (goodIn_of _ (by decide +kernel)) ggX6_setLevel_X6_requireLevel
set_option maxRecDepth 200000 in
theorem ggX6_setLevel_X1_save : GoodIn wsX6_setLevel wsX1_save := goodIn_r _ [25, 26, 27, 28, 29, 30, 24, 31, 32, 33, 34, 35, 36, 37, 38, 13, 39, 15, 40, 41, 42, 43, 44, 45, 46, 47, 48, 71, 72, 73, 74, 75, 65, 66, 67, 68, 69, 70] rfl (by decide +kernel)
set_option maxRecDepth 200000 in
theorem gX6_setLevel_X1_save : GoodIn wsX6_setLevel (wsV RX6 55 RX1 yX1_save wsX1_save) := goodIn_app (goodIn_of _ (by decide +kernel)) ggX6_setLevel_X1_save
set_option maxRecDepth 200000 in
theorem ggX6_setLevel_X4_levelIn : GoodIn wsX6_setLevel wsX4_levelIn := goodIn_r _ [52, 15, 41, 65, 66, 67, 68, 69, 70] rfl (by decide +kernel)
set_option maxRecDepth 200000 in
theorem gX6_setLevel_X4_levelIn : GoodIn wsX6_setLevel (wsV RX6 88 RX4 yX4_levelIn wsX4_levelIn) := goodIn_app (goodIn_of _ (by decide +kernel)) ggX6_setLevel_X4_levelIn
set_option maxRecDepth 200000 in
theorem ggX6_setLevel_X4_putLevel : GoodIn wsX6_setLevel wsX4_putLevel := goodIn_r _ [56, 15, 41, 65, 66, 67, 68, 69, 70] rfl (by decide +kernel)
set_option maxRecDepth 200000 in
theorem gX6_setLevel_X4_putLevel : GoodIn wsX6_setLevel (wsV RX6 92 RX4 yX4_putLevel wsX4_putLevel) := goodIn_app (goodIn_of _ (by decide +kernel)) ggX6_setLevel_X4_putLevel
set_option maxRecDepth 200000 in
theorem ggX6_setLevel_X4_putLabel : GoodIn wsX6_setLevel wsX4_putLabel := goodIn_r _ [60, 15, 47, 65, 66, 67, 68, 69, 70] rfl (by decide +kernel)
set_option maxRecDepth 200000 in
theorem gX6_setLevel_X4_putLabel : GoodIn wsX6_setLevel (wsV RX6 95 RX4 yX4_putLabel wsX4_putLabel) := goodIn_app (goodIn_of _ (by decide +kernel)) ggX6_setLevel_X4_putLabel
theorem dX6_setLevel_0 : decode cX6_setLevel 0 = .ok (.aload_n 0, 1) := by decide +kernel
theorem dX6_setLevel_1 : decode cX6_setLevel 1 = .ok (.iload_n 1, 1) := by decide +kernel
theorem dX6_setLevel_2 : decode cX6_setLevel 2 = .ok (.invokevirtual 63, 3) := by decide +kernel
theorem dX6_setLevel_5 : decode cX6_setLevel 5 = .ok (.iload_n 2, 1) := by decide +kernel
theorem dX6_setLevel_6 : decode cX6_setLevel 6 = .ok (.invokestatic 41, 3) := by decide +kernel
theorem dX6_setLevel_9 : decode cX6_setLevel 9 = .ok (.aload_n 0, 1) := by decide +kernel
theorem dX6_setLevel_10 : decode cX6_setLevel 10 = .ok (.getfield 19, 3) := by decide +kernel
theorem dX6_setLevel_13 : decode cX6_setLevel 13 = .ok (.aload_n 0, 1) := by decide +kernel
theorem dX6_setLevel_14 : decode cX6_setLevel 14 = .ok (.getfield 10, 3) := by decide +kernel
theorem dX6_setLevel_17 : decode cX6_setLevel 17 = .ok (.invokevirtual 55, 3) := by decide +kernel
theorem dX6_setLevel_20 : decode cX6_setLevel 20 = .ok (.aload_n 0, 1) := by decide +kernel
theorem dX6_setLevel_21 : decode cX6_setLevel 21 = .ok (.getfield 10, 3) := by decide +kernel
theorem dX6_setLevel_24 : decode cX6_setLevel 24 = .ok (.iload_n 1, 1) := by decide +kernel
theorem dX6_setLevel_25 : decode cX6_setLevel 25 = .ok (.invokevirtual 88, 3) := by decide +kernel
theorem dX6_setLevel_28 : decode cX6_setLevel 28 = .ok (.istore_n 3, 1) := by decide +kernel
theorem dX6_setLevel_29 : decode cX6_setLevel 29 = .ok (.aload_n 0, 1) := by decide +kernel
theorem dX6_setLevel_30 : decode cX6_setLevel 30 = .ok (.getfield 10, 3) := by decide +kernel
theorem dX6_setLevel_33 : decode cX6_setLevel 33 = .ok (.iload_n 1, 1) := by decide +kernel
theorem dX6_setLevel_34 : decode cX6_setLevel 34 = .ok (.iload_n 2, 1) := by decide +kernel
theorem dX6_setLevel_35 : decode cX6_setLevel 35 = .ok (.invokevirtual 92, 3) := by decide +kernel
theorem dX6_setLevel_38 : decode cX6_setLevel 38 = .ok (.aload_n 0, 1) := by decide +kernel
theorem dX6_setLevel_39 : decode cX6_setLevel 39 = .ok (.getfield 10, 3) := by decide +kernel
theorem dX6_setLevel_42 : decode cX6_setLevel 42 = .ok (.iload_n 1, 1) := by decide +kernel
theorem dX6_setLevel_43 : decode cX6_setLevel 43 = .ok (.iconst (-1), 1) := by decide +kernel
theorem dX6_setLevel_44 : decode cX6_setLevel 44 = .ok (.invokevirtual 95, 3) := by decide +kernel
theorem dX6_setLevel_47 : decode cX6_setLevel 47 = .ok (.iload_n 3, 1) := by decide +kernel
theorem dX6_setLevel_48 : decode cX6_setLevel 48 = .ok (.ireturn, 1) := by decide +kernel
set_option maxRecDepth 200000 in
theorem ggX6_label_X6_requireNumber : GoodIn wsX6_label wsX6_requireNumber := goodIn_ca (goodIn_r _ [9, 10, 11, 3, 12, 13, 14, 15, 16, 17, 18, 136, 137, 138, 139, 140, 141, 142, 143, 144, 145] rfl (by decide +kernel)) (goodIn_sub (fun _ h => List.mem_cons_of_mem _ (List.mem_append_right _ h)) (by decide +kernel))
set_option maxRecDepth 200000 in
theorem gX6_label_X6_requireNumber : GoodIn wsX6_label (wsV RX6 98 RX6 yX6_requireNumber wsX6_requireNumber) := goodIn_app (goodIn_of _ (by decide +kernel)) ggX6_label_X6_requireNumber
set_option maxRecDepth 200000 in
theorem ggX6_label_X2_reasonAgainst : GoodIn wsX6_label wsX2_reasonAgainst := goodIn_r _ [22, 23, 24, 21, 25, 26, 27, 28, 29, 30, 31, 15, 32, 17, 18, 33, 34, 35, 36, 37, 38, 13, 14, 16, 39, 40, 41, 42, 43, 44, 45, 46, 47, 48, 49, 50, 51, 52, 53, 54, 55, 56, 57, 58, 59, 60, 61, 62, 63, 64, 65, 66, 67, 68, 69, 70, 71, 72, 73, 74, 75, 8, 76, 77, 78, 79, 80, 81, 82, 83, 84, 85, 86, 87, 88, 89, 90, 91, 92, 93, 94, 95, 96, 97, 98, 99, 100, 101, 102, 103, 104, 105, 106, 107, 140, 141, 142, 143, 144, 145] rfl (by decide +kernel)
set_option maxRecDepth 200000 in
theorem gX6_label_X2_reasonAgainst : GoodIn wsX6_label (va_wsS RX6 101 yX2_reasonAgainst wsX2_reasonAgainst) := goodIn_app (goodIn_of _ (by decide +kernel)) ggX6_label_X2_reasonAgainst
set_option maxRecDepth 200000 in
theorem ggX6_label_X1_save : GoodIn wsX6_label wsX1_save := goodIn_r _ [112, 113, 114, 115, 116, 117, 111, 118, 119, 120, 121, 122, 123, 124, 125, 15, 126, 17, 107, 43, 127, 128, 129, 130, 18, 91, 37, 146, 147, 148, 149, 150, 140, 141, 142, 143, 144, 145] rfl (by decide +kernel)
set_option maxRecDepth 200000 in
theorem gX6_label_X1_save : GoodIn wsX6_label (wsV RX6 55 RX1 yX1_save wsX1_save) := goodIn_app (goodIn_of _ (by decide +kernel)) ggX6_label_X1_save
set_option maxRecDepth 200000 in
theorem ggX6_label_X4_putLabel : GoodIn wsX6_label wsX4_putLabel := goodIn_r _ [134, 17, 91, 140, 141, 142, 143, 144, 145] rfl (by decide +kernel)
set_option maxRecDepth 200000 in
theorem gX6_label_X4_putLabel : GoodIn wsX6_label (wsV RX6 95 RX4 yX4_putLabel wsX4_putLabel) := goodIn_app (goodIn_of _ (by decide +kernel)) ggX6_label_X4_putLabel
set_option maxRecDepth 200000 in
theorem ggX6_label_X2_bendOfPlace : GoodIn wsX6_label wsX2_bendOfPlace := goodIn_r _ [46, 26, 27, 21, 28, 29, 30, 31, 15, 32, 17, 18, 33, 34, 35, 36, 37, 38, 13, 14, 16, 39, 40, 41, 42, 43, 47, 48, 49, 50, 51, 52, 53, 54, 55, 56, 57, 58, 59, 60, 61, 62, 63, 64, 65, 66, 140, 141, 142, 143, 144, 145] rfl (by decide +kernel)
set_option maxRecDepth 200000 in
theorem gX6_label_X2_bendOfPlace : GoodIn wsX6_label (va_wsS RX6 109 yX2_bendOfPlace wsX2_bendOfPlace) := goodIn_app (goodIn_of _ (by decide +kernel)) ggX6_label_X2_bendOfPlace
theorem dX6_label_0 : decode cX6_label 0 = .ok (.aload_n 0, 1) := by decide +kernel
theorem dX6_label_1 : decode cX6_label 1 = .ok (.iload_n 1, 1) := by decide +kernel
theorem dX6_label_2 : decode cX6_label 2 = .ok (.iload_n 2, 1) := by decide +kernel
theorem dX6_label_3 : decode cX6_label 3 = .ok (.invokevirtual 98, 3) := by decide +kernel
theorem dX6_label_6 : decode cX6_label 6 = .ok (.aload_n 0, 1) := by decide +kernel
theorem dX6_label_7 : decode cX6_label 7 = .ok (.getfield 10, 3) := by decide +kernel
theorem dX6_label_10 : decode cX6_label 10 = .ok (.iload_n 1, 1) := by decide +kernel
theorem dX6_label_11 : decode cX6_label 11 = .ok (.iload_n 2, 1) := by decide +kernel
theorem dX6_label_12 : decode cX6_label 12 = .ok (.invokestatic 101, 3) := by decide +kernel
theorem dX6_label_15 : decode cX6_label 15 = .ok (.ifCond .eq 13, 3) := by decide +kernel
theorem dX6_label_18 : decode cX6_label 18 = .ok (.new 48, 3) := by decide +kernel
theorem dX6_label_21 : decode cX6_label 21 = .ok (.dup, 1) := by decide +kernel
theorem dX6_label_22 : decode cX6_label 22 = .ok (.ldc 107, 2) := by decide +kernel
theorem dX6_label_24 : decode cX6_label 24 = .ok (.invokespecial 52, 3) := by decide +kernel
theorem dX6_label_27 : decode cX6_label 27 = .ok (.athrow, 1) := by decide +kernel
theorem dX6_label_28 : decode cX6_label 28 = .ok (.aload_n 0, 1) := by decide +kernel
theorem dX6_label_29 : decode cX6_label 29 = .ok (.getfield 19, 3) := by decide +kernel
theorem dX6_label_32 : decode cX6_label 32 = .ok (.aload_n 0, 1) := by decide +kernel
theorem dX6_label_33 : decode cX6_label 33 = .ok (.getfield 10, 3) := by decide +kernel
theorem dX6_label_36 : decode cX6_label 36 = .ok (.invokevirtual 55, 3) := by decide +kernel
theorem dX6_label_39 : decode cX6_label 39 = .ok (.aload_n 0, 1) := by decide +kernel
theorem dX6_label_40 : decode cX6_label 40 = .ok (.getfield 10, 3) := by decide +kernel
theorem dX6_label_43 : decode cX6_label 43 = .ok (.iload_n 1, 1) := by decide +kernel
theorem dX6_label_44 : decode cX6_label 44 = .ok (.iload_n 2, 1) := by decide +kernel
theorem dX6_label_45 : decode cX6_label 45 = .ok (.invokevirtual 95, 3) := by decide +kernel
theorem dX6_label_48 : decode cX6_label 48 = .ok (.aload_n 0, 1) := by decide +kernel
theorem dX6_label_49 : decode cX6_label 49 = .ok (.getfield 10, 3) := by decide +kernel
theorem dX6_label_52 : decode cX6_label 52 = .ok (.iload_n 1, 1) := by decide +kernel
theorem dX6_label_53 : decode cX6_label 53 = .ok (.iload_n 2, 1) := by decide +kernel
theorem dX6_label_54 : decode cX6_label 54 = .ok (.invokestatic 109, 3) := by decide +kernel
theorem dX6_label_57 : decode cX6_label 57 = .ok (.ireturn, 1) := by decide +kernel
set_option maxRecDepth 200000 in
theorem ggX6_unlabel_X6_requireLine : GoodIn wsX6_unlabel wsX6_requireLine := goodIn_ca (goodIn_r _ [9, 10, 11, 3, 12, 13, 14, 15, 16, 17, 54, 55, 56, 57, 58, 59, 60, 61, 62, 63] rfl (by decide +kernel)) (goodIn_sub (fun _ h => List.mem_cons_of_mem _ (List.mem_append_right _ h)) (by decide +kernel))
set_option maxRecDepth 200000 in
theorem gX6_unlabel_X6_requireLine : GoodIn wsX6_unlabel (wsV RX6 63 RX6 yX6_requireLine wsX6_requireLine) := goodIn_app (goodIn_of _ (by decide +kernel)) ggX6_unlabel_X6_requireLine
set_option maxRecDepth 200000 in
theorem ggX6_unlabel_X4_labelIn : GoodIn wsX6_unlabel wsX4_labelIn := goodIn_r _ [21, 17, 22, 58, 59, 60, 61, 62, 63] rfl (by decide +kernel)
set_option maxRecDepth 200000 in
theorem gX6_unlabel_X4_labelIn : GoodIn wsX6_unlabel (wsV RX6 112 RX4 yX4_labelIn wsX4_labelIn) := goodIn_app (goodIn_of _ (by decide +kernel)) ggX6_unlabel_X4_labelIn
set_option maxRecDepth 200000 in
theorem ggX6_unlabel_X1_save : GoodIn wsX6_unlabel wsX1_save := goodIn_r _ [27, 28, 29, 30, 31, 32, 26, 33, 34, 35, 36, 37, 38, 39, 40, 15, 41, 17, 42, 43, 44, 45, 46, 47, 48, 22, 49, 64, 65, 66, 67, 68, 58, 59, 60, 61, 62, 63] rfl (by decide +kernel)
set_option maxRecDepth 200000 in
theorem gX6_unlabel_X1_save : GoodIn wsX6_unlabel (wsV RX6 55 RX1 yX1_save wsX1_save) := goodIn_app (goodIn_of _ (by decide +kernel)) ggX6_unlabel_X1_save
set_option maxRecDepth 200000 in
theorem ggX6_unlabel_X4_putLabel : GoodIn wsX6_unlabel wsX4_putLabel := goodIn_r _ [53, 17, 22, 58, 59, 60, 61, 62, 63] rfl (by decide +kernel)
set_option maxRecDepth 200000 in
theorem gX6_unlabel_X4_putLabel : GoodIn wsX6_unlabel (wsV RX6 95 RX4 yX4_putLabel wsX4_putLabel) := goodIn_app (goodIn_of _ (by decide +kernel)) ggX6_unlabel_X4_putLabel
theorem dX6_unlabel_0 : decode cX6_unlabel 0 = .ok (.aload_n 0, 1) := by decide +kernel
theorem dX6_unlabel_1 : decode cX6_unlabel 1 = .ok (.iload_n 1, 1) := by decide +kernel
theorem dX6_unlabel_2 : decode cX6_unlabel 2 = .ok (.invokevirtual 63, 3) := by decide +kernel
theorem dX6_unlabel_5 : decode cX6_unlabel 5 = .ok (.aload_n 0, 1) := by decide +kernel
theorem dX6_unlabel_6 : decode cX6_unlabel 6 = .ok (.getfield 10, 3) := by decide +kernel
theorem dX6_unlabel_9 : decode cX6_unlabel 9 = .ok (.iload_n 1, 1) := by decide +kernel
theorem dX6_unlabel_10 : decode cX6_unlabel 10 = .ok (.invokevirtual 112, 3) := by decide +kernel
theorem dX6_unlabel_13 : decode cX6_unlabel 13 = .ok (.istore_n 2, 1) := by decide +kernel
theorem dX6_unlabel_14 : decode cX6_unlabel 14 = .ok (.iload_n 2, 1) := by decide +kernel
theorem dX6_unlabel_15 : decode cX6_unlabel 15 = .ok (.iconst (-1), 1) := by decide +kernel
theorem dX6_unlabel_16 : decode cX6_unlabel 16 = .ok (.if_icmp .ne 13, 3) := by decide +kernel
theorem dX6_unlabel_19 : decode cX6_unlabel 19 = .ok (.new 48, 3) := by decide +kernel
theorem dX6_unlabel_22 : decode cX6_unlabel 22 = .ok (.dup, 1) := by decide +kernel
theorem dX6_unlabel_23 : decode cX6_unlabel 23 = .ok (.ldc 115, 2) := by decide +kernel
theorem dX6_unlabel_25 : decode cX6_unlabel 25 = .ok (.invokespecial 52, 3) := by decide +kernel
theorem dX6_unlabel_28 : decode cX6_unlabel 28 = .ok (.athrow, 1) := by decide +kernel
theorem dX6_unlabel_29 : decode cX6_unlabel 29 = .ok (.aload_n 0, 1) := by decide +kernel
theorem dX6_unlabel_30 : decode cX6_unlabel 30 = .ok (.getfield 19, 3) := by decide +kernel
theorem dX6_unlabel_33 : decode cX6_unlabel 33 = .ok (.aload_n 0, 1) := by decide +kernel
theorem dX6_unlabel_34 : decode cX6_unlabel 34 = .ok (.getfield 10, 3) := by decide +kernel
theorem dX6_unlabel_37 : decode cX6_unlabel 37 = .ok (.invokevirtual 55, 3) := by decide +kernel
theorem dX6_unlabel_40 : decode cX6_unlabel 40 = .ok (.aload_n 0, 1) := by decide +kernel
theorem dX6_unlabel_41 : decode cX6_unlabel 41 = .ok (.getfield 10, 3) := by decide +kernel
theorem dX6_unlabel_44 : decode cX6_unlabel 44 = .ok (.iload_n 1, 1) := by decide +kernel
theorem dX6_unlabel_45 : decode cX6_unlabel 45 = .ok (.iconst (-1), 1) := by decide +kernel
theorem dX6_unlabel_46 : decode cX6_unlabel 46 = .ok (.invokevirtual 95, 3) := by decide +kernel
theorem dX6_unlabel_49 : decode cX6_unlabel 49 = .ok (.iload_n 2, 1) := by decide +kernel
theorem dX6_unlabel_50 : decode cX6_unlabel 50 = .ok (.ireturn, 1) := by decide +kernel
set_option maxRecDepth 200000 in
theorem ggX6_labelBest_X6_requireLine : GoodIn wsX6_labelBest wsX6_requireLine := goodIn_ca (goodIn_r _ [9, 10, 11, 3, 12, 13, 14, 15, 16, 17, 138, 139, 140, 141, 142, 143, 144, 145, 146, 147] rfl (by decide +kernel)) (goodIn_sub (fun _ h => List.mem_cons_of_mem _ (List.mem_append_right _ h)) (by decide +kernel))
set_option maxRecDepth 200000 in
theorem gX6_labelBest_X6_requireLine : GoodIn wsX6_labelBest (wsV RX6 63 RX6 yX6_requireLine wsX6_requireLine) := goodIn_app (goodIn_of _ (by decide +kernel)) ggX6_labelBest_X6_requireLine
set_option maxRecDepth 200000 in
theorem ggX6_labelBest_X2_best : GoodIn wsX6_labelBest wsX2_best := goodIn_r _ [21, 22, 23, 24, 15, 25, 17, 26, 27, 28, 20, 29, 30, 31, 32, 33, 34, 35, 36, 37, 38, 39, 40, 41, 42, 43, 44, 45, 46, 47, 48, 49, 50, 51, 52, 53, 54, 55, 56, 57, 58, 59, 60, 61, 62, 63, 64, 65, 66, 67, 68, 69, 70, 71, 72, 73, 74, 75, 76, 77, 78, 8, 79, 80, 81, 82, 83, 84, 85, 86, 87, 88, 89, 90, 91, 92, 93, 94, 95, 96, 97, 98, 99, 100, 101, 102, 103, 104, 105, 106, 107, 108, 109, 110, 142, 143, 144, 145, 146, 147] rfl (by decide +kernel)
set_option maxRecDepth 200000 in
theorem gX6_labelBest_X2_best : GoodIn wsX6_labelBest (va_wsS RX6 117 yX2_best wsX2_best) := goodIn_app (goodIn_of _ (by decide +kernel)) ggX6_labelBest_X2_best
set_option maxRecDepth 200000 in
theorem ggX6_labelBest_X1_save : GoodIn wsX6_labelBest wsX1_save := goodIn_r _ [115, 116, 117, 118, 119, 120, 114, 121, 122, 123, 124, 125, 126, 127, 128, 15, 129, 17, 110, 46, 130, 131, 132, 133, 26, 94, 37, 148, 149, 150, 151, 152, 142, 143, 144, 145, 146, 147] rfl (by decide +kernel)
set_option maxRecDepth 200000 in
theorem gX6_labelBest_X1_save : GoodIn wsX6_labelBest (wsV RX6 55 RX1 yX1_save wsX1_save) := goodIn_app (goodIn_of _ (by decide +kernel)) ggX6_labelBest_X1_save
set_option maxRecDepth 200000 in
theorem ggX6_labelBest_X4_putLabel : GoodIn wsX6_labelBest wsX4_putLabel := goodIn_r _ [137, 17, 94, 142, 143, 144, 145, 146, 147] rfl (by decide +kernel)
set_option maxRecDepth 200000 in
theorem gX6_labelBest_X4_putLabel : GoodIn wsX6_labelBest (wsV RX6 95 RX4 yX4_putLabel wsX4_putLabel) := goodIn_app (goodIn_of _ (by decide +kernel)) ggX6_labelBest_X4_putLabel
theorem dX6_labelBest_0 : decode cX6_labelBest 0 = .ok (.aload_n 0, 1) := by decide +kernel
theorem dX6_labelBest_1 : decode cX6_labelBest 1 = .ok (.iload_n 1, 1) := by decide +kernel
theorem dX6_labelBest_2 : decode cX6_labelBest 2 = .ok (.invokevirtual 63, 3) := by decide +kernel
theorem dX6_labelBest_5 : decode cX6_labelBest 5 = .ok (.aload_n 0, 1) := by decide +kernel
theorem dX6_labelBest_6 : decode cX6_labelBest 6 = .ok (.getfield 10, 3) := by decide +kernel
theorem dX6_labelBest_9 : decode cX6_labelBest 9 = .ok (.iload_n 1, 1) := by decide +kernel
theorem dX6_labelBest_10 : decode cX6_labelBest 10 = .ok (.invokestatic 117, 3) := by decide +kernel
theorem dX6_labelBest_13 : decode cX6_labelBest 13 = .ok (.istore_n 2, 1) := by decide +kernel
theorem dX6_labelBest_14 : decode cX6_labelBest 14 = .ok (.iload_n 2, 1) := by decide +kernel
theorem dX6_labelBest_15 : decode cX6_labelBest 15 = .ok (.iconst (-1), 1) := by decide +kernel
theorem dX6_labelBest_16 : decode cX6_labelBest 16 = .ok (.if_icmp .ne 13, 3) := by decide +kernel
theorem dX6_labelBest_19 : decode cX6_labelBest 19 = .ok (.new 48, 3) := by decide +kernel
theorem dX6_labelBest_22 : decode cX6_labelBest 22 = .ok (.dup, 1) := by decide +kernel
theorem dX6_labelBest_23 : decode cX6_labelBest 23 = .ok (.ldc 121, 2) := by decide +kernel
theorem dX6_labelBest_25 : decode cX6_labelBest 25 = .ok (.invokespecial 52, 3) := by decide +kernel
theorem dX6_labelBest_28 : decode cX6_labelBest 28 = .ok (.athrow, 1) := by decide +kernel
theorem dX6_labelBest_29 : decode cX6_labelBest 29 = .ok (.aload_n 0, 1) := by decide +kernel
theorem dX6_labelBest_30 : decode cX6_labelBest 30 = .ok (.getfield 19, 3) := by decide +kernel
theorem dX6_labelBest_33 : decode cX6_labelBest 33 = .ok (.aload_n 0, 1) := by decide +kernel
theorem dX6_labelBest_34 : decode cX6_labelBest 34 = .ok (.getfield 10, 3) := by decide +kernel
theorem dX6_labelBest_37 : decode cX6_labelBest 37 = .ok (.invokevirtual 55, 3) := by decide +kernel
theorem dX6_labelBest_40 : decode cX6_labelBest 40 = .ok (.aload_n 0, 1) := by decide +kernel
theorem dX6_labelBest_41 : decode cX6_labelBest 41 = .ok (.getfield 10, 3) := by decide +kernel
theorem dX6_labelBest_44 : decode cX6_labelBest 44 = .ok (.iload_n 1, 1) := by decide +kernel
theorem dX6_labelBest_45 : decode cX6_labelBest 45 = .ok (.iload_n 2, 1) := by decide +kernel
theorem dX6_labelBest_46 : decode cX6_labelBest 46 = .ok (.invokevirtual 95, 3) := by decide +kernel
theorem dX6_labelBest_49 : decode cX6_labelBest 49 = .ok (.iload_n 2, 1) := by decide +kernel
theorem dX6_labelBest_50 : decode cX6_labelBest 50 = .ok (.ireturn, 1) := by decide +kernel
set_option maxRecDepth 200000 in
theorem ggX6_labelAll_X1_save : GoodIn wsX6_labelAll wsX1_save := goodIn_r _ [7, 8, 9, 10, 11, 12, 6, 13, 14, 15, 16, 17, 18, 19, 20, 21, 22, 23, 24, 25, 26, 27, 28, 29, 30, 31, 32, 150, 151, 152, 153, 154, 155, 156, 157, 158, 159, 160] rfl (by decide +kernel)
set_option maxRecDepth 200000 in
theorem gX6_labelAll_X1_save : GoodIn wsX6_labelAll (wsV RX6 55 RX1 yX1_save wsX1_save) := goodIn_app (goodIn_of _ (by decide +kernel)) ggX6_labelAll_X1_save
set_option maxRecDepth 200000 in
theorem ggX6_labelAll_X2_setAll : GoodIn wsX6_labelAll wsX2_setAll := goodIn_r _ [36, 37, 38, 39, 21, 40, 23, 41, 42, 43, 44, 31, 45, 46, 47, 48, 49, 50, 51, 52, 53, 54, 55, 56, 25, 57, 58, 35, 59, 60, 61, 62, 63, 30, 64, 65, 66, 67, 68, 69, 70, 71, 72, 73, 32, 74, 75, 76, 77, 78, 79, 80, 81, 82, 83, 84, 85, 86, 87, 88, 89, 90, 91, 92, 93, 94, 95, 96, 97, 98, 99, 100, 101, 102, 103, 104, 105, 106, 107, 108, 109, 110, 111, 112, 113, 114, 115, 116, 117, 118, 119, 120, 121, 122, 123, 124, 125, 126, 127, 128, 129, 130, 131, 132, 133, 134, 135, 136, 137, 138, 139, 140, 24, 155, 156, 157, 158, 159, 160] rfl (by decide +kernel)
set_option maxRecDepth 200000 in
theorem gX6_labelAll_X2_setAll : GoodIn wsX6_labelAll (va_wsS RX6 123 yX2_setAll wsX2_setAll) := goodIn_app (goodIn_of _ (by decide +kernel)) ggX6_labelAll_X2_setAll
set_option maxRecDepth 200000 in
theorem ggX6_labelAll_X4_labelCount : GoodIn wsX6_labelAll wsX4_labelCount := goodIn_r _ [144, 23, 145, 123, 124, 21, 125, 31, 155, 156, 157, 158, 159, 160] rfl (by decide +kernel)
set_option maxRecDepth 200000 in
theorem gX6_labelAll_X4_labelCount : GoodIn wsX6_labelAll (wsV RX6 126 RX4 yX4_labelCount wsX4_labelCount) := goodIn_app (goodIn_of _ (by decide +kernel)) ggX6_labelAll_X4_labelCount
theorem dX6_labelAll_0 : decode cX6_labelAll 0 = .ok (.aload_n 0, 1) := by decide +kernel
theorem dX6_labelAll_1 : decode cX6_labelAll 1 = .ok (.getfield 19, 3) := by decide +kernel
theorem dX6_labelAll_4 : decode cX6_labelAll 4 = .ok (.aload_n 0, 1) := by decide +kernel
theorem dX6_labelAll_5 : decode cX6_labelAll 5 = .ok (.getfield 10, 3) := by decide +kernel
theorem dX6_labelAll_8 : decode cX6_labelAll 8 = .ok (.invokevirtual 55, 3) := by decide +kernel
theorem dX6_labelAll_11 : decode cX6_labelAll 11 = .ok (.aload_n 0, 1) := by decide +kernel
theorem dX6_labelAll_12 : decode cX6_labelAll 12 = .ok (.getfield 10, 3) := by decide +kernel
theorem dX6_labelAll_15 : decode cX6_labelAll 15 = .ok (.invokestatic 123, 3) := by decide +kernel
theorem dX6_labelAll_18 : decode cX6_labelAll 18 = .ok (.aload_n 0, 1) := by decide +kernel
theorem dX6_labelAll_19 : decode cX6_labelAll 19 = .ok (.getfield 10, 3) := by decide +kernel
theorem dX6_labelAll_22 : decode cX6_labelAll 22 = .ok (.invokevirtual 126, 3) := by decide +kernel
theorem dX6_labelAll_25 : decode cX6_labelAll 25 = .ok (.ireturn, 1) := by decide +kernel
set_option maxRecDepth 200000 in
theorem ggX6_setGap_X1_save : GoodIn wsX6_setGap wsX1_save := goodIn_r _ [9, 10, 11, 12, 13, 14, 8, 15, 16, 17, 18, 19, 20, 21, 22, 23, 24, 25, 26, 27, 28, 29, 30, 31, 32, 33, 34, 47, 48, 49, 50, 51, 52, 53, 54, 55, 56, 57] rfl (by decide +kernel)
set_option maxRecDepth 200000 in
theorem gX6_setGap_X1_save : GoodIn wsX6_setGap (wsV RX6 55 RX1 yX1_save wsX1_save) := goodIn_app (goodIn_of _ (by decide +kernel)) ggX6_setGap_X1_save
set_option maxRecDepth 200000 in
theorem ggX6_setGap_X4_gapWidth : GoodIn wsX6_setGap wsX4_gapWidth := goodIn_r _ [38, 26, 52, 53, 54, 55, 56, 57] rfl (by decide +kernel)
set_option maxRecDepth 200000 in
theorem gX6_setGap_X4_gapWidth : GoodIn wsX6_setGap (wsV RX6 134 RX4 yX4_gapWidth wsX4_gapWidth) := goodIn_app (goodIn_of _ (by decide +kernel)) ggX6_setGap_X4_gapWidth
set_option maxRecDepth 200000 in
theorem ggX6_setGap_X4_putGap : GoodIn wsX6_setGap wsX4_putGap := goodIn_r _ [42, 26, 52, 53, 54, 55, 56, 57] rfl (by decide +kernel)
set_option maxRecDepth 200000 in
theorem gX6_setGap_X4_putGap : GoodIn wsX6_setGap (wsV RX6 137 RX4 yX4_putGap wsX4_putGap) := goodIn_app (goodIn_of _ (by decide +kernel)) ggX6_setGap_X4_putGap
theorem dX6_setGap_0 : decode cX6_setGap 0 = .ok (.iload_n 1, 1) := by decide +kernel
theorem dX6_setGap_1 : decode cX6_setGap 1 = .ok (.iconst 1, 1) := by decide +kernel
theorem dX6_setGap_2 : decode cX6_setGap 2 = .ok (.if_icmp .lt 9, 3) := by decide +kernel
theorem dX6_setGap_5 : decode cX6_setGap 5 = .ok (.iload_n 1, 1) := by decide +kernel
theorem dX6_setGap_6 : decode cX6_setGap 6 = .ok (.bipush 6, 2) := by decide +kernel
theorem dX6_setGap_8 : decode cX6_setGap 8 = .ok (.if_icmp .le 13, 3) := by decide +kernel
theorem dX6_setGap_11 : decode cX6_setGap 11 = .ok (.new 129, 3) := by decide +kernel
theorem dX6_setGap_14 : decode cX6_setGap 14 = .ok (.dup, 1) := by decide +kernel
theorem dX6_setGap_15 : decode cX6_setGap 15 = .ok (.ldc 131, 2) := by decide +kernel
theorem dX6_setGap_17 : decode cX6_setGap 17 = .ok (.invokespecial 133, 3) := by decide +kernel
theorem dX6_setGap_20 : decode cX6_setGap 20 = .ok (.athrow, 1) := by decide +kernel
theorem dX6_setGap_21 : decode cX6_setGap 21 = .ok (.aload_n 0, 1) := by decide +kernel
theorem dX6_setGap_22 : decode cX6_setGap 22 = .ok (.getfield 19, 3) := by decide +kernel
theorem dX6_setGap_25 : decode cX6_setGap 25 = .ok (.aload_n 0, 1) := by decide +kernel
theorem dX6_setGap_26 : decode cX6_setGap 26 = .ok (.getfield 10, 3) := by decide +kernel
theorem dX6_setGap_29 : decode cX6_setGap 29 = .ok (.invokevirtual 55, 3) := by decide +kernel
theorem dX6_setGap_32 : decode cX6_setGap 32 = .ok (.aload_n 0, 1) := by decide +kernel
theorem dX6_setGap_33 : decode cX6_setGap 33 = .ok (.getfield 10, 3) := by decide +kernel
theorem dX6_setGap_36 : decode cX6_setGap 36 = .ok (.invokevirtual 134, 3) := by decide +kernel
theorem dX6_setGap_39 : decode cX6_setGap 39 = .ok (.istore_n 2, 1) := by decide +kernel
theorem dX6_setGap_40 : decode cX6_setGap 40 = .ok (.aload_n 0, 1) := by decide +kernel
theorem dX6_setGap_41 : decode cX6_setGap 41 = .ok (.getfield 10, 3) := by decide +kernel
theorem dX6_setGap_44 : decode cX6_setGap 44 = .ok (.iload_n 1, 1) := by decide +kernel
theorem dX6_setGap_45 : decode cX6_setGap 45 = .ok (.invokevirtual 137, 3) := by decide +kernel
theorem dX6_setGap_48 : decode cX6_setGap 48 = .ok (.iload_n 2, 1) := by decide +kernel
theorem dX6_setGap_49 : decode cX6_setGap 49 = .ok (.ireturn, 1) := by decide +kernel
set_option maxRecDepth 200000 in
theorem ggX6_lines_X4_lineCount : GoodIn wsX6_lines wsX4_lineCount := goodIn_r _ [6, 7, 12, 13, 14, 15, 16, 17] rfl (by decide +kernel)
set_option maxRecDepth 200000 in
theorem gX6_lines_X4_lineCount : GoodIn wsX6_lines (wsV RX6 84 RX4 yX4_lineCount wsX4_lineCount) := goodIn_app (goodIn_of _ (by decide +kernel)) ggX6_lines_X4_lineCount
theorem dX6_lines_0 : decode cX6_lines 0 = .ok (.aload_n 0, 1) := by decide +kernel
theorem dX6_lines_1 : decode cX6_lines 1 = .ok (.getfield 10, 3) := by decide +kernel
theorem dX6_lines_4 : decode cX6_lines 4 = .ok (.invokevirtual 84, 3) := by decide +kernel
theorem dX6_lines_7 : decode cX6_lines 7 = .ok (.ireturn, 1) := by decide +kernel
set_option maxRecDepth 200000 in
theorem ggX6_levelOf_X6_requireLine : GoodIn wsX6_levelOf wsX6_requireLine := goodIn_ca (goodIn_r _ [6, 7, 8, 1, 9, 10, 11, 12, 13, 14, 20, 21, 22, 23, 24, 25, 26, 27, 28, 29] rfl (by decide +kernel)) (goodIn_sub (fun _ h => List.mem_cons_of_mem _ (List.mem_append_right _ h)) (by decide +kernel))
set_option maxRecDepth 200000 in
theorem gX6_levelOf_X6_requireLine : GoodIn wsX6_levelOf (wsV RX6 63 RX6 yX6_requireLine wsX6_requireLine) := goodIn_app (goodIn_of _ (by decide +kernel)) ggX6_levelOf_X6_requireLine
set_option maxRecDepth 200000 in
theorem ggX6_levelOf_X4_levelIn : GoodIn wsX6_levelOf wsX4_levelIn := goodIn_r _ [18, 14, 19, 24, 25, 26, 27, 28, 29] rfl (by decide +kernel)
set_option maxRecDepth 200000 in
theorem gX6_levelOf_X4_levelIn : GoodIn wsX6_levelOf (wsV RX6 88 RX4 yX4_levelIn wsX4_levelIn) := goodIn_app (goodIn_of _ (by decide +kernel)) ggX6_levelOf_X4_levelIn
theorem dX6_levelOf_0 : decode cX6_levelOf 0 = .ok (.aload_n 0, 1) := by decide +kernel
theorem dX6_levelOf_1 : decode cX6_levelOf 1 = .ok (.iload_n 1, 1) := by decide +kernel
theorem dX6_levelOf_2 : decode cX6_levelOf 2 = .ok (.invokevirtual 63, 3) := by decide +kernel
theorem dX6_levelOf_5 : decode cX6_levelOf 5 = .ok (.aload_n 0, 1) := by decide +kernel
theorem dX6_levelOf_6 : decode cX6_levelOf 6 = .ok (.getfield 10, 3) := by decide +kernel
theorem dX6_levelOf_9 : decode cX6_levelOf 9 = .ok (.iload_n 1, 1) := by decide +kernel
theorem dX6_levelOf_10 : decode cX6_levelOf 10 = .ok (.invokevirtual 88, 3) := by decide +kernel
theorem dX6_levelOf_13 : decode cX6_levelOf 13 = .ok (.ireturn, 1) := by decide +kernel
set_option maxRecDepth 200000 in
theorem ggX6_stepsOf_X6_requireLine : GoodIn wsX6_stepsOf wsX6_requireLine := goodIn_ca (goodIn_r _ [6, 7, 8, 1, 9, 10, 11, 12, 13, 14, 20, 21, 22, 23, 24, 25, 26, 27, 28, 29] rfl (by decide +kernel)) (goodIn_sub (fun _ h => List.mem_cons_of_mem _ (List.mem_append_right _ h)) (by decide +kernel))
set_option maxRecDepth 200000 in
theorem gX6_stepsOf_X6_requireLine : GoodIn wsX6_stepsOf (wsV RX6 63 RX6 yX6_requireLine wsX6_requireLine) := goodIn_app (goodIn_of _ (by decide +kernel)) ggX6_stepsOf_X6_requireLine
set_option maxRecDepth 200000 in
theorem ggX6_stepsOf_X4_stepCount : GoodIn wsX6_stepsOf wsX4_stepCount := goodIn_r _ [18, 14, 19, 24, 25, 26, 27, 28, 29] rfl (by decide +kernel)
set_option maxRecDepth 200000 in
theorem gX6_stepsOf_X4_stepCount : GoodIn wsX6_stepsOf (wsV RX6 140 RX4 yX4_stepCount wsX4_stepCount) := goodIn_app (goodIn_of _ (by decide +kernel)) ggX6_stepsOf_X4_stepCount
theorem dX6_stepsOf_0 : decode cX6_stepsOf 0 = .ok (.aload_n 0, 1) := by decide +kernel
theorem dX6_stepsOf_1 : decode cX6_stepsOf 1 = .ok (.iload_n 1, 1) := by decide +kernel
theorem dX6_stepsOf_2 : decode cX6_stepsOf 2 = .ok (.invokevirtual 63, 3) := by decide +kernel
theorem dX6_stepsOf_5 : decode cX6_stepsOf 5 = .ok (.aload_n 0, 1) := by decide +kernel
theorem dX6_stepsOf_6 : decode cX6_stepsOf 6 = .ok (.getfield 10, 3) := by decide +kernel
theorem dX6_stepsOf_9 : decode cX6_stepsOf 9 = .ok (.iload_n 1, 1) := by decide +kernel
theorem dX6_stepsOf_10 : decode cX6_stepsOf 10 = .ok (.invokevirtual 140, 3) := by decide +kernel
theorem dX6_stepsOf_13 : decode cX6_stepsOf 13 = .ok (.ireturn, 1) := by decide +kernel
set_option maxRecDepth 200000 in
theorem ggX6_pointOf_X6_requireNumber : GoodIn wsX6_pointOf wsX6_requireNumber := goodIn_ca (goodIn_r _ [6, 7, 8, 1, 9, 10, 11, 12, 13, 14, 15, 21, 22, 23, 24, 25, 26, 27, 28, 29, 30] rfl (by decide +kernel)) (goodIn_sub (fun _ h => List.mem_cons_of_mem _ (List.mem_append_right _ h)) (by decide +kernel))
set_option maxRecDepth 200000 in
theorem gX6_pointOf_X6_requireNumber : GoodIn wsX6_pointOf (wsV RX6 98 RX6 yX6_requireNumber wsX6_requireNumber) := goodIn_app (goodIn_of _ (by decide +kernel)) ggX6_pointOf_X6_requireNumber
set_option maxRecDepth 200000 in
theorem ggX6_pointOf_X4_pointAt : GoodIn wsX6_pointOf wsX4_pointAt := goodIn_r _ [19, 14, 15, 20, 25, 26, 27, 28, 29, 30] rfl (by decide +kernel)
set_option maxRecDepth 200000 in
theorem gX6_pointOf_X4_pointAt : GoodIn wsX6_pointOf (wsV RX6 143 RX4 yX4_pointAt wsX4_pointAt) := goodIn_app (goodIn_of _ (by decide +kernel)) ggX6_pointOf_X4_pointAt
theorem dX6_pointOf_0 : decode cX6_pointOf 0 = .ok (.aload_n 0, 1) := by decide +kernel
theorem dX6_pointOf_1 : decode cX6_pointOf 1 = .ok (.iload_n 1, 1) := by decide +kernel
theorem dX6_pointOf_2 : decode cX6_pointOf 2 = .ok (.iload_n 2, 1) := by decide +kernel
theorem dX6_pointOf_3 : decode cX6_pointOf 3 = .ok (.invokevirtual 98, 3) := by decide +kernel
theorem dX6_pointOf_6 : decode cX6_pointOf 6 = .ok (.aload_n 0, 1) := by decide +kernel
theorem dX6_pointOf_7 : decode cX6_pointOf 7 = .ok (.getfield 10, 3) := by decide +kernel
theorem dX6_pointOf_10 : decode cX6_pointOf 10 = .ok (.iload_n 1, 1) := by decide +kernel
theorem dX6_pointOf_11 : decode cX6_pointOf 11 = .ok (.iload_n 2, 1) := by decide +kernel
theorem dX6_pointOf_12 : decode cX6_pointOf 12 = .ok (.invokevirtual 143, 3) := by decide +kernel
theorem dX6_pointOf_15 : decode cX6_pointOf 15 = .ok (.ireturn, 1) := by decide +kernel
set_option maxRecDepth 200000 in
theorem ggX6_lineAt_X6_requirePoint : GoodIn wsX6_lineAt wsX6_requirePoint := goodIn_ca (goodIn_r _ [5, 6, 7, 8, 9, 4, 10] rfl (by decide +kernel)) (goodIn_sub (fun _ h => List.mem_cons_of_mem _ (List.mem_append_right _ h)) (by decide +kernel))
set_option maxRecDepth 200000 in
theorem gX6_lineAt_X6_requirePoint : GoodIn wsX6_lineAt (va_wsS RX6 37 yX6_requirePoint wsX6_requirePoint) := goodIn_app (goodIn_of _ (by decide +kernel)) ggX6_lineAt_X6_requirePoint
set_option maxRecDepth 200000 in
theorem ggX6_lineAt_X4_lineOn : GoodIn wsX6_lineAt wsX4_lineOn := goodIn_r _ [15, 16, 17, 18, 19, 14, 20, 21, 22, 23, 24, 25, 26, 27, 28, 29, 30, 35, 36, 37, 38, 39, 40] rfl (by decide +kernel)
set_option maxRecDepth 200000 in
theorem gX6_lineAt_X4_lineOn : GoodIn wsX6_lineAt (wsV RX6 146 RX4 yX4_lineOn wsX4_lineOn) := goodIn_app (goodIn_of _ (by decide +kernel)) ggX6_lineAt_X4_lineOn
theorem dX6_lineAt_0 : decode cX6_lineAt 0 = .ok (.iload_n 1, 1) := by decide +kernel
theorem dX6_lineAt_1 : decode cX6_lineAt 1 = .ok (.invokestatic 37, 3) := by decide +kernel
theorem dX6_lineAt_4 : decode cX6_lineAt 4 = .ok (.aload_n 0, 1) := by decide +kernel
theorem dX6_lineAt_5 : decode cX6_lineAt 5 = .ok (.getfield 10, 3) := by decide +kernel
theorem dX6_lineAt_8 : decode cX6_lineAt 8 = .ok (.iload_n 1, 1) := by decide +kernel
theorem dX6_lineAt_9 : decode cX6_lineAt 9 = .ok (.invokevirtual 146, 3) := by decide +kernel
theorem dX6_lineAt_12 : decode cX6_lineAt 12 = .ok (.ireturn, 1) := by decide +kernel
set_option maxRecDepth 200000 in
theorem ggX6_isClosed_X6_requireLine : GoodIn wsX6_isClosed wsX6_requireLine := goodIn_ca (goodIn_r _ [6, 7, 8, 1, 9, 10, 11, 12, 13, 14, 21, 22, 23, 24, 25, 26, 27, 28, 29, 30] rfl (by decide +kernel)) (goodIn_sub (fun _ h => List.mem_cons_of_mem _ (List.mem_append_right _ h)) (by decide +kernel))
set_option maxRecDepth 200000 in
theorem gX6_isClosed_X6_requireLine : GoodIn wsX6_isClosed (wsV RX6 63 RX6 yX6_requireLine wsX6_requireLine) := goodIn_app (goodIn_of _ (by decide +kernel)) ggX6_isClosed_X6_requireLine
set_option maxRecDepth 200000 in
theorem ggX6_isClosed_X4_isRing : GoodIn wsX6_isClosed wsX4_isRing := goodIn_r _ [18, 14, 19, 20, 25, 26, 27, 28, 29, 30] rfl (by decide +kernel)
set_option maxRecDepth 200000 in
theorem gX6_isClosed_X4_isRing : GoodIn wsX6_isClosed (wsV RX6 78 RX4 yX4_isRing wsX4_isRing) := goodIn_app (goodIn_of _ (by decide +kernel)) ggX6_isClosed_X4_isRing
theorem dX6_isClosed_0 : decode cX6_isClosed 0 = .ok (.aload_n 0, 1) := by decide +kernel
theorem dX6_isClosed_1 : decode cX6_isClosed 1 = .ok (.iload_n 1, 1) := by decide +kernel
theorem dX6_isClosed_2 : decode cX6_isClosed 2 = .ok (.invokevirtual 63, 3) := by decide +kernel
theorem dX6_isClosed_5 : decode cX6_isClosed 5 = .ok (.aload_n 0, 1) := by decide +kernel
theorem dX6_isClosed_6 : decode cX6_isClosed 6 = .ok (.getfield 10, 3) := by decide +kernel
theorem dX6_isClosed_9 : decode cX6_isClosed 9 = .ok (.iload_n 1, 1) := by decide +kernel
theorem dX6_isClosed_10 : decode cX6_isClosed 10 = .ok (.invokevirtual 78, 3) := by decide +kernel
theorem dX6_isClosed_13 : decode cX6_isClosed 13 = .ok (.ireturn, 1) := by decide +kernel
set_option maxRecDepth 200000 in
theorem ggX6_whyNotStepped_X6_requireLine : GoodIn wsX6_whyNotStepped wsX6_requireLine := goodIn_ca (goodIn_r _ [6, 7, 8, 1, 9, 10, 11, 12, 13, 14, 72, 73, 74, 75, 76, 77, 78, 79, 80, 81] rfl (by decide +kernel)) (goodIn_sub (fun _ h => List.mem_cons_of_mem _ (List.mem_append_left _ (List.mem_append_right _ h))) (by decide +kernel))
set_option maxRecDepth 200000 in
theorem gX6_whyNotStepped_X6_requireLine : GoodIn wsX6_whyNotStepped (wsV RX6 63 RX6 yX6_requireLine wsX6_requireLine) := goodIn_app (goodIn_of _ (by decide +kernel)) ggX6_whyNotStepped_X6_requireLine
set_option maxRecDepth 200000 in
theorem ggX6_whyNotStepped_X6_requireDirection : GoodIn wsX6_whyNotStepped wsX6_requireDirection := goodIn_ca (goodIn_r _ [17, 18, 19, 20, 21, 5, 22] rfl (by decide +kernel)) (goodIn_sub (fun _ h => List.mem_cons_of_mem _ (List.mem_append_right _ h)) (by decide +kernel))
set_option maxRecDepth 200000 in
theorem gX6_whyNotStepped_X6_requireDirection : GoodIn wsX6_whyNotStepped (va_wsS RX6 66 yX6_requireDirection wsX6_requireDirection) := goodIn_app (goodIn_of _ (by decide +kernel)) ggX6_whyNotStepped_X6_requireDirection
set_option maxRecDepth 200000 in
theorem ggX6_whyNotStepped_X4_reasonAgainstStep : GoodIn wsX6_whyNotStepped wsX4_reasonAgainstStep := goodIn_r _ [26, 27, 28, 29, 12, 30, 14, 31, 32, 33, 34, 35, 36, 37, 38, 39, 40, 41, 5, 42, 43, 44, 45, 46, 47, 20, 21, 22, 48, 49, 50, 51, 52, 53, 54, 55, 56, 57, 58, 59, 60, 61, 62, 63, 64, 65, 66, 67, 68, 69, 70, 71, 76, 77, 78, 79, 80, 81] rfl (by decide +kernel)
set_option maxRecDepth 200000 in
theorem gX6_whyNotStepped_X4_reasonAgainstStep : GoodIn wsX6_whyNotStepped (wsV RX6 69 RX4 yX4_reasonAgainstStep wsX4_reasonAgainstStep) := goodIn_app (goodIn_of _ (by decide +kernel)) ggX6_whyNotStepped_X4_reasonAgainstStep
theorem dX6_whyNotStepped_0 : decode cX6_whyNotStepped 0 = .ok (.aload_n 0, 1) := by decide +kernel
theorem dX6_whyNotStepped_1 : decode cX6_whyNotStepped 1 = .ok (.iload_n 1, 1) := by decide +kernel
theorem dX6_whyNotStepped_2 : decode cX6_whyNotStepped 2 = .ok (.invokevirtual 63, 3) := by decide +kernel
theorem dX6_whyNotStepped_5 : decode cX6_whyNotStepped 5 = .ok (.iload_n 2, 1) := by decide +kernel
theorem dX6_whyNotStepped_6 : decode cX6_whyNotStepped 6 = .ok (.invokestatic 66, 3) := by decide +kernel
theorem dX6_whyNotStepped_9 : decode cX6_whyNotStepped 9 = .ok (.aload_n 0, 1) := by decide +kernel
theorem dX6_whyNotStepped_10 : decode cX6_whyNotStepped 10 = .ok (.getfield 10, 3) := by decide +kernel
theorem dX6_whyNotStepped_13 : decode cX6_whyNotStepped 13 = .ok (.iload_n 1, 1) := by decide +kernel
theorem dX6_whyNotStepped_14 : decode cX6_whyNotStepped 14 = .ok (.iload_n 2, 1) := by decide +kernel
theorem dX6_whyNotStepped_15 : decode cX6_whyNotStepped 15 = .ok (.invokevirtual 69, 3) := by decide +kernel
theorem dX6_whyNotStepped_18 : decode cX6_whyNotStepped 18 = .ok (.ireturn, 1) := by decide +kernel
set_option maxRecDepth 200000 in
theorem ggX6_bendAt_X6_requireNumber : GoodIn wsX6_bendAt wsX6_requireNumber := goodIn_ca (goodIn_r _ [6, 7, 8, 1, 9, 10, 11, 12, 13, 14, 15, 40, 41, 42, 43, 44, 45, 46, 47, 48, 49] rfl (by decide +kernel)) (goodIn_sub (fun _ h => List.mem_cons_of_mem _ (List.mem_append_right _ h)) (by decide +kernel))
set_option maxRecDepth 200000 in
theorem gX6_bendAt_X6_requireNumber : GoodIn wsX6_bendAt (wsV RX6 98 RX6 yX6_requireNumber wsX6_requireNumber) := goodIn_app (goodIn_of _ (by decide +kernel)) ggX6_bendAt_X6_requireNumber
set_option maxRecDepth 200000 in
theorem ggX6_bendAt_X4_bendThere : GoodIn wsX6_bendAt wsX4_bendThere := goodIn_r _ [19, 20, 21, 22, 23, 24, 25, 26, 27, 28, 29, 12, 30, 14, 15, 31, 32, 33, 34, 35, 36, 37, 38, 39, 44, 45, 46, 47, 48, 49] rfl (by decide +kernel)
set_option maxRecDepth 200000 in
theorem gX6_bendAt_X4_bendThere : GoodIn wsX6_bendAt (wsV RX6 149 RX4 yX4_bendThere wsX4_bendThere) := goodIn_app (goodIn_of _ (by decide +kernel)) ggX6_bendAt_X4_bendThere
theorem dX6_bendAt_0 : decode cX6_bendAt 0 = .ok (.aload_n 0, 1) := by decide +kernel
theorem dX6_bendAt_1 : decode cX6_bendAt 1 = .ok (.iload_n 1, 1) := by decide +kernel
theorem dX6_bendAt_2 : decode cX6_bendAt 2 = .ok (.iload_n 2, 1) := by decide +kernel
theorem dX6_bendAt_3 : decode cX6_bendAt 3 = .ok (.invokevirtual 98, 3) := by decide +kernel
theorem dX6_bendAt_6 : decode cX6_bendAt 6 = .ok (.aload_n 0, 1) := by decide +kernel
theorem dX6_bendAt_7 : decode cX6_bendAt 7 = .ok (.getfield 10, 3) := by decide +kernel
theorem dX6_bendAt_10 : decode cX6_bendAt 10 = .ok (.iload_n 1, 1) := by decide +kernel
theorem dX6_bendAt_11 : decode cX6_bendAt 11 = .ok (.iload_n 2, 1) := by decide +kernel
theorem dX6_bendAt_12 : decode cX6_bendAt 12 = .ok (.invokevirtual 149, 3) := by decide +kernel
theorem dX6_bendAt_15 : decode cX6_bendAt 15 = .ok (.ireturn, 1) := by decide +kernel
set_option maxRecDepth 200000 in
theorem ggX6_lengthByKinds_X6_requireLine : GoodIn wsX6_lengthByKinds wsX6_requireLine := goodIn_ca (goodIn_r _ [6, 7, 8, 1, 9, 10, 11, 12, 13, 14, 32, 33, 34, 35, 36, 37, 38, 39, 40, 41] rfl (by decide +kernel)) (goodIn_sub (fun _ h => List.mem_cons_of_mem _ (List.mem_append_right _ h)) (by decide +kernel))
set_option maxRecDepth 200000 in
theorem gX6_lengthByKinds_X6_requireLine : GoodIn wsX6_lengthByKinds (wsV RX6 63 RX6 yX6_requireLine wsX6_requireLine) := goodIn_app (goodIn_of _ (by decide +kernel)) ggX6_lengthByKinds_X6_requireLine
set_option maxRecDepth 200000 in
theorem ggX6_lengthByKinds_X4_stepCount : GoodIn wsX6_lengthByKinds wsX4_stepCount := goodIn_r _ [18, 14, 19, 36, 37, 38, 39, 40, 41] rfl (by decide +kernel)
set_option maxRecDepth 200000 in
theorem gX6_lengthByKinds_X4_stepCount : GoodIn wsX6_lengthByKinds (wsV RX6 140 RX4 yX4_stepCount wsX4_stepCount) := goodIn_app (goodIn_of _ (by decide +kernel)) ggX6_lengthByKinds_X4_stepCount
set_option maxRecDepth 200000 in
theorem ggX6_lengthByKinds_X4_directionAt : GoodIn wsX6_lengthByKinds wsX4_directionAt := goodIn_r _ [23, 14, 19, 24, 36, 37, 38, 39, 40, 41] rfl (by decide +kernel)
set_option maxRecDepth 200000 in
theorem gX6_lengthByKinds_X4_directionAt : GoodIn wsX6_lengthByKinds (wsV RX6 152 RX4 yX4_directionAt wsX4_directionAt) := goodIn_app (goodIn_of _ (by decide +kernel)) ggX6_lengthByKinds_X4_directionAt
set_option maxRecDepth 200000 in
theorem ggX6_lengthByKinds_X6_isSlanting : GoodIn wsX6_lengthByKinds wsX6_isSlanting := goodIn_r _ [27] rfl (by decide +kernel)
set_option maxRecDepth 200000 in
theorem gX6_lengthByKinds_X6_isSlanting : GoodIn wsX6_lengthByKinds (va_wsS RX6 155 yX6_isSlanting wsX6_isSlanting) := goodIn_app (goodIn_of _ (by decide +kernel)) ggX6_lengthByKinds_X6_isSlanting
set_option maxRecDepth 200000 in
theorem ggX6_lengthByKinds_X6_slantingLength : GoodIn wsX6_lengthByKinds wsX6_slantingLength := goodIn_r _ [30, 31] rfl (by decide +kernel)
set_option maxRecDepth 200000 in
theorem gX6_lengthByKinds_X6_slantingLength : GoodIn wsX6_lengthByKinds (va_wsS RX6 158 yX6_slantingLength wsX6_slantingLength) := goodIn_app (goodIn_of _ (by decide +kernel)) ggX6_lengthByKinds_X6_slantingLength
theorem dX6_lengthByKinds_0 : decode cX6_lengthByKinds 0 = .ok (.aload_n 0, 1) := by decide +kernel
theorem dX6_lengthByKinds_1 : decode cX6_lengthByKinds 1 = .ok (.iload_n 1, 1) := by decide +kernel
theorem dX6_lengthByKinds_2 : decode cX6_lengthByKinds 2 = .ok (.invokevirtual 63, 3) := by decide +kernel
theorem dX6_lengthByKinds_5 : decode cX6_lengthByKinds 5 = .ok (.aload_n 0, 1) := by decide +kernel
theorem dX6_lengthByKinds_6 : decode cX6_lengthByKinds 6 = .ok (.getfield 10, 3) := by decide +kernel
theorem dX6_lengthByKinds_9 : decode cX6_lengthByKinds 9 = .ok (.iload_n 1, 1) := by decide +kernel
theorem dX6_lengthByKinds_10 : decode cX6_lengthByKinds 10 = .ok (.invokevirtual 140, 3) := by decide +kernel
theorem dX6_lengthByKinds_13 : decode cX6_lengthByKinds 13 = .ok (.istore_n 2, 1) := by decide +kernel
theorem dX6_lengthByKinds_14 : decode cX6_lengthByKinds 14 = .ok (.iconst 0, 1) := by decide +kernel
theorem dX6_lengthByKinds_15 : decode cX6_lengthByKinds 15 = .ok (.istore_n 3, 1) := by decide +kernel
theorem dX6_lengthByKinds_16 : decode cX6_lengthByKinds 16 = .ok (.iconst 0, 1) := by decide +kernel
theorem dX6_lengthByKinds_17 : decode cX6_lengthByKinds 17 = .ok (.istore 4, 2) := by decide +kernel
theorem dX6_lengthByKinds_19 : decode cX6_lengthByKinds 19 = .ok (.iload 4, 2) := by decide +kernel
theorem dX6_lengthByKinds_21 : decode cX6_lengthByKinds 21 = .ok (.iload_n 2, 1) := by decide +kernel
theorem dX6_lengthByKinds_22 : decode cX6_lengthByKinds 22 = .ok (.if_icmp .ge 28, 3) := by decide +kernel
theorem dX6_lengthByKinds_25 : decode cX6_lengthByKinds 25 = .ok (.aload_n 0, 1) := by decide +kernel
theorem dX6_lengthByKinds_26 : decode cX6_lengthByKinds 26 = .ok (.getfield 10, 3) := by decide +kernel
theorem dX6_lengthByKinds_29 : decode cX6_lengthByKinds 29 = .ok (.iload_n 1, 1) := by decide +kernel
theorem dX6_lengthByKinds_30 : decode cX6_lengthByKinds 30 = .ok (.iload 4, 2) := by decide +kernel
theorem dX6_lengthByKinds_32 : decode cX6_lengthByKinds 32 = .ok (.invokevirtual 152, 3) := by decide +kernel
theorem dX6_lengthByKinds_35 : decode cX6_lengthByKinds 35 = .ok (.invokestatic 155, 3) := by decide +kernel
theorem dX6_lengthByKinds_38 : decode cX6_lengthByKinds 38 = .ok (.ifCond .eq 6, 3) := by decide +kernel
theorem dX6_lengthByKinds_41 : decode cX6_lengthByKinds 41 = .ok (.iinc 3 1, 3) := by decide +kernel
theorem dX6_lengthByKinds_44 : decode cX6_lengthByKinds 44 = .ok (.iinc 4 1, 3) := by decide +kernel
theorem dX6_lengthByKinds_47 : decode cX6_lengthByKinds 47 = .ok (.goto (-28), 3) := by decide +kernel
theorem dX6_lengthByKinds_50 : decode cX6_lengthByKinds 50 = .ok (.iload_n 2, 1) := by decide +kernel
theorem dX6_lengthByKinds_51 : decode cX6_lengthByKinds 51 = .ok (.iload_n 3, 1) := by decide +kernel
theorem dX6_lengthByKinds_52 : decode cX6_lengthByKinds 52 = .ok (.isub, 1) := by decide +kernel
theorem dX6_lengthByKinds_53 : decode cX6_lengthByKinds 53 = .ok (.i2d, 1) := by decide +kernel
theorem dX6_lengthByKinds_54 : decode cX6_lengthByKinds 54 = .ok (.iload_n 3, 1) := by decide +kernel
theorem dX6_lengthByKinds_55 : decode cX6_lengthByKinds 55 = .ok (.i2d, 1) := by decide +kernel
theorem dX6_lengthByKinds_56 : decode cX6_lengthByKinds 56 = .ok (.invokestatic 158, 3) := by decide +kernel
theorem dX6_lengthByKinds_59 : decode cX6_lengthByKinds 59 = .ok (.dmul, 1) := by decide +kernel
theorem dX6_lengthByKinds_60 : decode cX6_lengthByKinds 60 = .ok (.dadd, 1) := by decide +kernel
theorem dX6_lengthByKinds_61 : decode cX6_lengthByKinds 61 = .ok (.dreturn, 1) := by decide +kernel
set_option maxRecDepth 200000 in
theorem ggX6_lengthBySteps_X6_requireLine : GoodIn wsX6_lengthBySteps wsX6_requireLine := goodIn_ca (goodIn_r _ [6, 7, 8, 1, 9, 10, 11, 12, 13, 14, 32, 33, 34, 35, 36, 37, 38, 39, 40, 41] rfl (by decide +kernel)) (goodIn_sub (fun _ h => List.mem_cons_of_mem _ (List.mem_append_right _ h)) (by decide +kernel))
set_option maxRecDepth 200000 in
theorem gX6_lengthBySteps_X6_requireLine : GoodIn wsX6_lengthBySteps (wsV RX6 63 RX6 yX6_requireLine wsX6_requireLine) := goodIn_app (goodIn_of _ (by decide +kernel)) ggX6_lengthBySteps_X6_requireLine
set_option maxRecDepth 200000 in
theorem ggX6_lengthBySteps_X4_stepCount : GoodIn wsX6_lengthBySteps wsX4_stepCount := goodIn_r _ [18, 14, 19, 36, 37, 38, 39, 40, 41] rfl (by decide +kernel)
set_option maxRecDepth 200000 in
theorem gX6_lengthBySteps_X4_stepCount : GoodIn wsX6_lengthBySteps (wsV RX6 140 RX4 yX4_stepCount wsX4_stepCount) := goodIn_app (goodIn_of _ (by decide +kernel)) ggX6_lengthBySteps_X4_stepCount
set_option maxRecDepth 200000 in
theorem ggX6_lengthBySteps_X4_directionAt : GoodIn wsX6_lengthBySteps wsX4_directionAt := goodIn_r _ [23, 14, 19, 24, 36, 37, 38, 39, 40, 41] rfl (by decide +kernel)
set_option maxRecDepth 200000 in
theorem gX6_lengthBySteps_X4_directionAt : GoodIn wsX6_lengthBySteps (wsV RX6 152 RX4 yX4_directionAt wsX4_directionAt) := goodIn_app (goodIn_of _ (by decide +kernel)) ggX6_lengthBySteps_X4_directionAt
set_option maxRecDepth 200000 in
theorem ggX6_lengthBySteps_X6_isSlanting : GoodIn wsX6_lengthBySteps wsX6_isSlanting := goodIn_r _ [27] rfl (by decide +kernel)
set_option maxRecDepth 200000 in
theorem gX6_lengthBySteps_X6_isSlanting : GoodIn wsX6_lengthBySteps (va_wsS RX6 155 yX6_isSlanting wsX6_isSlanting) := goodIn_app (goodIn_of _ (by decide +kernel)) ggX6_lengthBySteps_X6_isSlanting
set_option maxRecDepth 200000 in
theorem ggX6_lengthBySteps_X6_slantingLength : GoodIn wsX6_lengthBySteps wsX6_slantingLength := goodIn_r _ [30, 31] rfl (by decide +kernel)
set_option maxRecDepth 200000 in
theorem gX6_lengthBySteps_X6_slantingLength : GoodIn wsX6_lengthBySteps (va_wsS RX6 158 yX6_slantingLength wsX6_slantingLength) := goodIn_app (goodIn_of _ (by decide +kernel)) ggX6_lengthBySteps_X6_slantingLength
theorem dX6_lengthBySteps_0 : decode cX6_lengthBySteps 0 = .ok (.aload_n 0, 1) := by decide +kernel
theorem dX6_lengthBySteps_1 : decode cX6_lengthBySteps 1 = .ok (.iload_n 1, 1) := by decide +kernel
theorem dX6_lengthBySteps_2 : decode cX6_lengthBySteps 2 = .ok (.invokevirtual 63, 3) := by decide +kernel
theorem dX6_lengthBySteps_5 : decode cX6_lengthBySteps 5 = .ok (.aload_n 0, 1) := by decide +kernel
theorem dX6_lengthBySteps_6 : decode cX6_lengthBySteps 6 = .ok (.getfield 10, 3) := by decide +kernel
theorem dX6_lengthBySteps_9 : decode cX6_lengthBySteps 9 = .ok (.iload_n 1, 1) := by decide +kernel
theorem dX6_lengthBySteps_10 : decode cX6_lengthBySteps 10 = .ok (.invokevirtual 140, 3) := by decide +kernel
theorem dX6_lengthBySteps_13 : decode cX6_lengthBySteps 13 = .ok (.istore_n 2, 1) := by decide +kernel
theorem dX6_lengthBySteps_14 : decode cX6_lengthBySteps 14 = .ok (.dconst 0, 1) := by decide +kernel
theorem dX6_lengthBySteps_15 : decode cX6_lengthBySteps 15 = .ok (.dstore_n 3, 1) := by decide +kernel
theorem dX6_lengthBySteps_16 : decode cX6_lengthBySteps 16 = .ok (.iconst 0, 1) := by decide +kernel
theorem dX6_lengthBySteps_17 : decode cX6_lengthBySteps 17 = .ok (.istore 5, 2) := by decide +kernel
theorem dX6_lengthBySteps_19 : decode cX6_lengthBySteps 19 = .ok (.iload 5, 2) := by decide +kernel
theorem dX6_lengthBySteps_21 : decode cX6_lengthBySteps 21 = .ok (.iload_n 2, 1) := by decide +kernel
theorem dX6_lengthBySteps_22 : decode cX6_lengthBySteps 22 = .ok (.if_icmp .ge 35, 3) := by decide +kernel
theorem dX6_lengthBySteps_25 : decode cX6_lengthBySteps 25 = .ok (.dload_n 3, 1) := by decide +kernel
theorem dX6_lengthBySteps_26 : decode cX6_lengthBySteps 26 = .ok (.aload_n 0, 1) := by decide +kernel
theorem dX6_lengthBySteps_27 : decode cX6_lengthBySteps 27 = .ok (.getfield 10, 3) := by decide +kernel
theorem dX6_lengthBySteps_30 : decode cX6_lengthBySteps 30 = .ok (.iload_n 1, 1) := by decide +kernel
theorem dX6_lengthBySteps_31 : decode cX6_lengthBySteps 31 = .ok (.iload 5, 2) := by decide +kernel
theorem dX6_lengthBySteps_33 : decode cX6_lengthBySteps 33 = .ok (.invokevirtual 152, 3) := by decide +kernel
theorem dX6_lengthBySteps_36 : decode cX6_lengthBySteps 36 = .ok (.invokestatic 155, 3) := by decide +kernel
theorem dX6_lengthBySteps_39 : decode cX6_lengthBySteps 39 = .ok (.ifCond .eq 9, 3) := by decide +kernel
theorem dX6_lengthBySteps_42 : decode cX6_lengthBySteps 42 = .ok (.invokestatic 158, 3) := by decide +kernel
theorem dX6_lengthBySteps_45 : decode cX6_lengthBySteps 45 = .ok (.goto 4, 3) := by decide +kernel
theorem dX6_lengthBySteps_48 : decode cX6_lengthBySteps 48 = .ok (.dconst 1, 1) := by decide +kernel
theorem dX6_lengthBySteps_49 : decode cX6_lengthBySteps 49 = .ok (.dadd, 1) := by decide +kernel
theorem dX6_lengthBySteps_50 : decode cX6_lengthBySteps 50 = .ok (.dstore_n 3, 1) := by decide +kernel
theorem dX6_lengthBySteps_51 : decode cX6_lengthBySteps 51 = .ok (.iinc 5 1, 3) := by decide +kernel
theorem dX6_lengthBySteps_54 : decode cX6_lengthBySteps 54 = .ok (.goto (-35), 3) := by decide +kernel
theorem dX6_lengthBySteps_57 : decode cX6_lengthBySteps 57 = .ok (.dload_n 3, 1) := by decide +kernel
theorem dX6_lengthBySteps_58 : decode cX6_lengthBySteps 58 = .ok (.dreturn, 1) := by decide +kernel
set_option maxRecDepth 200000 in
theorem ggX6_gap_X4_gapWidth : GoodIn wsX6_gap wsX4_gapWidth := goodIn_r _ [6, 7, 12, 13, 14, 15, 16, 17] rfl (by decide +kernel)
set_option maxRecDepth 200000 in
theorem gX6_gap_X4_gapWidth : GoodIn wsX6_gap (wsV RX6 134 RX4 yX4_gapWidth wsX4_gapWidth) := goodIn_app (goodIn_of _ (by decide +kernel)) ggX6_gap_X4_gapWidth
theorem dX6_gap_0 : decode cX6_gap 0 = .ok (.aload_n 0, 1) := by decide +kernel
theorem dX6_gap_1 : decode cX6_gap 1 = .ok (.getfield 10, 3) := by decide +kernel
theorem dX6_gap_4 : decode cX6_gap 4 = .ok (.invokevirtual 134, 3) := by decide +kernel
theorem dX6_gap_7 : decode cX6_gap 7 = .ok (.ireturn, 1) := by decide +kernel
set_option maxRecDepth 200000 in
theorem ggX6_labels_X4_labelCount : GoodIn wsX6_labels wsX4_labelCount := goodIn_r _ [6, 7, 8, 9, 10, 5, 11, 12, 17, 18, 19, 20, 21, 22] rfl (by decide +kernel)
set_option maxRecDepth 200000 in
theorem gX6_labels_X4_labelCount : GoodIn wsX6_labels (wsV RX6 126 RX4 yX4_labelCount wsX4_labelCount) := goodIn_app (goodIn_of _ (by decide +kernel)) ggX6_labels_X4_labelCount
theorem dX6_labels_0 : decode cX6_labels 0 = .ok (.aload_n 0, 1) := by decide +kernel
theorem dX6_labels_1 : decode cX6_labels 1 = .ok (.getfield 10, 3) := by decide +kernel
theorem dX6_labels_4 : decode cX6_labels 4 = .ok (.invokevirtual 126, 3) := by decide +kernel
theorem dX6_labels_7 : decode cX6_labels 7 = .ok (.ireturn, 1) := by decide +kernel
set_option maxRecDepth 200000 in
theorem ggX6_labelOf_X6_requireLine : GoodIn wsX6_labelOf wsX6_requireLine := goodIn_ca (goodIn_r _ [6, 7, 8, 1, 9, 10, 11, 12, 13, 14, 20, 21, 22, 23, 24, 25, 26, 27, 28, 29] rfl (by decide +kernel)) (goodIn_sub (fun _ h => List.mem_cons_of_mem _ (List.mem_append_right _ h)) (by decide +kernel))
set_option maxRecDepth 200000 in
theorem gX6_labelOf_X6_requireLine : GoodIn wsX6_labelOf (wsV RX6 63 RX6 yX6_requireLine wsX6_requireLine) := goodIn_app (goodIn_of _ (by decide +kernel)) ggX6_labelOf_X6_requireLine
set_option maxRecDepth 200000 in
theorem ggX6_labelOf_X4_labelIn : GoodIn wsX6_labelOf wsX4_labelIn := goodIn_r _ [18, 14, 19, 24, 25, 26, 27, 28, 29] rfl (by decide +kernel)
set_option maxRecDepth 200000 in
theorem gX6_labelOf_X4_labelIn : GoodIn wsX6_labelOf (wsV RX6 112 RX4 yX4_labelIn wsX4_labelIn) := goodIn_app (goodIn_of _ (by decide +kernel)) ggX6_labelOf_X4_labelIn
theorem dX6_labelOf_0 : decode cX6_labelOf 0 = .ok (.aload_n 0, 1) := by decide +kernel
theorem dX6_labelOf_1 : decode cX6_labelOf 1 = .ok (.iload_n 1, 1) := by decide +kernel
theorem dX6_labelOf_2 : decode cX6_labelOf 2 = .ok (.invokevirtual 63, 3) := by decide +kernel
theorem dX6_labelOf_5 : decode cX6_labelOf 5 = .ok (.aload_n 0, 1) := by decide +kernel
theorem dX6_labelOf_6 : decode cX6_labelOf 6 = .ok (.getfield 10, 3) := by decide +kernel
theorem dX6_labelOf_9 : decode cX6_labelOf 9 = .ok (.iload_n 1, 1) := by decide +kernel
theorem dX6_labelOf_10 : decode cX6_labelOf 10 = .ok (.invokevirtual 112, 3) := by decide +kernel
theorem dX6_labelOf_13 : decode cX6_labelOf 13 = .ok (.ireturn, 1) := by decide +kernel
set_option maxRecDepth 200000 in
theorem ggX6_isTurned_X6_requireLine : GoodIn wsX6_isTurned wsX6_requireLine := goodIn_ca (goodIn_r _ [6, 7, 8, 1, 9, 10, 11, 12, 13, 14, 40, 41, 42, 43, 44, 45, 46, 47, 48, 49] rfl (by decide +kernel)) (goodIn_sub (fun _ h => List.mem_cons_of_mem _ (List.mem_append_right _ h)) (by decide +kernel))
set_option maxRecDepth 200000 in
theorem gX6_isTurned_X6_requireLine : GoodIn wsX6_isTurned (wsV RX6 63 RX6 yX6_requireLine wsX6_requireLine) := goodIn_app (goodIn_of _ (by decide +kernel)) ggX6_isTurned_X6_requireLine
set_option maxRecDepth 200000 in
theorem ggX6_isTurned_X4_labelIn : GoodIn wsX6_isTurned wsX4_labelIn := goodIn_r _ [18, 14, 19, 44, 45, 46, 47, 48, 49] rfl (by decide +kernel)
set_option maxRecDepth 200000 in
theorem gX6_isTurned_X4_labelIn : GoodIn wsX6_isTurned (wsV RX6 112 RX4 yX4_labelIn wsX4_labelIn) := goodIn_app (goodIn_of _ (by decide +kernel)) ggX6_isTurned_X4_labelIn
set_option maxRecDepth 200000 in
theorem ggX6_isTurned_X2_goesLeft : GoodIn wsX6_isTurned wsX2_goesLeft := goodIn_r _ [23, 24, 25, 26, 12, 27, 14, 28, 29, 30, 31, 22, 32, 33, 34, 35, 36, 37, 38, 5, 39, 44, 45, 46, 47, 48, 49] rfl (by decide +kernel)
set_option maxRecDepth 200000 in
theorem gX6_isTurned_X2_goesLeft : GoodIn wsX6_isTurned (va_wsS RX6 162 yX2_goesLeft wsX2_goesLeft) := goodIn_app (goodIn_of _ (by decide +kernel)) ggX6_isTurned_X2_goesLeft
theorem dX6_isTurned_0 : decode cX6_isTurned 0 = .ok (.aload_n 0, 1) := by decide +kernel
theorem dX6_isTurned_1 : decode cX6_isTurned 1 = .ok (.iload_n 1, 1) := by decide +kernel
theorem dX6_isTurned_2 : decode cX6_isTurned 2 = .ok (.invokevirtual 63, 3) := by decide +kernel
theorem dX6_isTurned_5 : decode cX6_isTurned 5 = .ok (.aload_n 0, 1) := by decide +kernel
theorem dX6_isTurned_6 : decode cX6_isTurned 6 = .ok (.getfield 10, 3) := by decide +kernel
theorem dX6_isTurned_9 : decode cX6_isTurned 9 = .ok (.iload_n 1, 1) := by decide +kernel
theorem dX6_isTurned_10 : decode cX6_isTurned 10 = .ok (.invokevirtual 112, 3) := by decide +kernel
theorem dX6_isTurned_13 : decode cX6_isTurned 13 = .ok (.istore_n 2, 1) := by decide +kernel
theorem dX6_isTurned_14 : decode cX6_isTurned 14 = .ok (.iload_n 2, 1) := by decide +kernel
theorem dX6_isTurned_15 : decode cX6_isTurned 15 = .ok (.iconst (-1), 1) := by decide +kernel
theorem dX6_isTurned_16 : decode cX6_isTurned 16 = .ok (.if_icmp .eq 19, 3) := by decide +kernel
theorem dX6_isTurned_19 : decode cX6_isTurned 19 = .ok (.aload_n 0, 1) := by decide +kernel
theorem dX6_isTurned_20 : decode cX6_isTurned 20 = .ok (.getfield 10, 3) := by decide +kernel
theorem dX6_isTurned_23 : decode cX6_isTurned 23 = .ok (.iload_n 1, 1) := by decide +kernel
theorem dX6_isTurned_24 : decode cX6_isTurned 24 = .ok (.iload_n 2, 1) := by decide +kernel
theorem dX6_isTurned_25 : decode cX6_isTurned 25 = .ok (.invokestatic 162, 3) := by decide +kernel
theorem dX6_isTurned_28 : decode cX6_isTurned 28 = .ok (.ifCond .eq 7, 3) := by decide +kernel
theorem dX6_isTurned_31 : decode cX6_isTurned 31 = .ok (.iconst 1, 1) := by decide +kernel
theorem dX6_isTurned_32 : decode cX6_isTurned 32 = .ok (.goto 4, 3) := by decide +kernel
theorem dX6_isTurned_35 : decode cX6_isTurned 35 = .ok (.iconst 0, 1) := by decide +kernel
theorem dX6_isTurned_36 : decode cX6_isTurned 36 = .ok (.ireturn, 1) := by decide +kernel
set_option maxRecDepth 200000 in
theorem ggX6_readFrom_X6_requireLine : GoodIn wsX6_readFrom wsX6_requireLine := goodIn_ca (goodIn_r _ [6, 7, 8, 1, 9, 10, 11, 12, 13, 14, 42, 43, 44, 45, 46, 47, 48, 49, 50, 51] rfl (by decide +kernel)) (goodIn_sub (fun _ h => List.mem_cons_of_mem _ (List.mem_append_right _ h)) (by decide +kernel))
set_option maxRecDepth 200000 in
theorem gX6_readFrom_X6_requireLine : GoodIn wsX6_readFrom (wsV RX6 63 RX6 yX6_requireLine wsX6_requireLine) := goodIn_app (goodIn_of _ (by decide +kernel)) ggX6_readFrom_X6_requireLine
set_option maxRecDepth 200000 in
theorem ggX6_readFrom_X4_labelIn : GoodIn wsX6_readFrom wsX4_labelIn := goodIn_r _ [18, 14, 19, 46, 47, 48, 49, 50, 51] rfl (by decide +kernel)
set_option maxRecDepth 200000 in
theorem gX6_readFrom_X4_labelIn : GoodIn wsX6_readFrom (wsV RX6 112 RX4 yX4_labelIn wsX4_labelIn) := goodIn_app (goodIn_of _ (by decide +kernel)) ggX6_readFrom_X4_labelIn
set_option maxRecDepth 200000 in
theorem ggX6_readFrom_X2_goesLeft : GoodIn wsX6_readFrom wsX2_goesLeft := goodIn_r _ [23, 24, 25, 26, 12, 27, 14, 28, 29, 30, 31, 22, 32, 33, 34, 35, 36, 37, 38, 5, 39, 46, 47, 48, 49, 50, 51] rfl (by decide +kernel)
set_option maxRecDepth 200000 in
theorem gX6_readFrom_X2_goesLeft : GoodIn wsX6_readFrom (va_wsS RX6 162 yX2_goesLeft wsX2_goesLeft) := goodIn_app (goodIn_of _ (by decide +kernel)) ggX6_readFrom_X2_goesLeft
set_option maxRecDepth 200000 in
theorem ggX6_readFrom_X2_lastNumber : GoodIn wsX6_readFrom wsX2_lastNumber := goodIn_r _ [32, 33, 34, 35, 12, 36, 14, 37, 46, 47, 48, 49, 50, 51] rfl (by decide +kernel)
set_option maxRecDepth 200000 in
theorem gX6_readFrom_X2_lastNumber : GoodIn wsX6_readFrom (va_wsS RX6 166 yX2_lastNumber wsX2_lastNumber) := goodIn_app (goodIn_of _ (by decide +kernel)) ggX6_readFrom_X2_lastNumber
set_option maxRecDepth 200000 in
theorem ggX6_readFrom_X4_pointAt : GoodIn wsX6_readFrom wsX4_pointAt := goodIn_r _ [27, 14, 28, 29, 46, 47, 48, 49, 50, 51] rfl (by decide +kernel)
set_option maxRecDepth 200000 in
theorem gX6_readFrom_X4_pointAt : GoodIn wsX6_readFrom (wsV RX6 143 RX4 yX4_pointAt wsX4_pointAt) := goodIn_app (goodIn_of _ (by decide +kernel)) ggX6_readFrom_X4_pointAt
theorem dX6_readFrom_0 : decode cX6_readFrom 0 = .ok (.aload_n 0, 1) := by decide +kernel
theorem dX6_readFrom_1 : decode cX6_readFrom 1 = .ok (.iload_n 1, 1) := by decide +kernel
theorem dX6_readFrom_2 : decode cX6_readFrom 2 = .ok (.invokevirtual 63, 3) := by decide +kernel
theorem dX6_readFrom_5 : decode cX6_readFrom 5 = .ok (.aload_n 0, 1) := by decide +kernel
theorem dX6_readFrom_6 : decode cX6_readFrom 6 = .ok (.getfield 10, 3) := by decide +kernel
theorem dX6_readFrom_9 : decode cX6_readFrom 9 = .ok (.iload_n 1, 1) := by decide +kernel
theorem dX6_readFrom_10 : decode cX6_readFrom 10 = .ok (.invokevirtual 112, 3) := by decide +kernel
theorem dX6_readFrom_13 : decode cX6_readFrom 13 = .ok (.istore_n 2, 1) := by decide +kernel
theorem dX6_readFrom_14 : decode cX6_readFrom 14 = .ok (.iload_n 2, 1) := by decide +kernel
theorem dX6_readFrom_15 : decode cX6_readFrom 15 = .ok (.iconst (-1), 1) := by decide +kernel
theorem dX6_readFrom_16 : decode cX6_readFrom 16 = .ok (.if_icmp .ne 5, 3) := by decide +kernel
theorem dX6_readFrom_19 : decode cX6_readFrom 19 = .ok (.iconst (-1), 1) := by decide +kernel
theorem dX6_readFrom_20 : decode cX6_readFrom 20 = .ok (.ireturn, 1) := by decide +kernel
theorem dX6_readFrom_21 : decode cX6_readFrom 21 = .ok (.aload_n 0, 1) := by decide +kernel
theorem dX6_readFrom_22 : decode cX6_readFrom 22 = .ok (.getfield 10, 3) := by decide +kernel
theorem dX6_readFrom_25 : decode cX6_readFrom 25 = .ok (.iload_n 1, 1) := by decide +kernel
theorem dX6_readFrom_26 : decode cX6_readFrom 26 = .ok (.iload_n 2, 1) := by decide +kernel
theorem dX6_readFrom_27 : decode cX6_readFrom 27 = .ok (.invokestatic 162, 3) := by decide +kernel
theorem dX6_readFrom_30 : decode cX6_readFrom 30 = .ok (.ifCond .eq 21, 3) := by decide +kernel
theorem dX6_readFrom_33 : decode cX6_readFrom 33 = .ok (.aload_n 0, 1) := by decide +kernel
theorem dX6_readFrom_34 : decode cX6_readFrom 34 = .ok (.getfield 10, 3) := by decide +kernel
theorem dX6_readFrom_37 : decode cX6_readFrom 37 = .ok (.iload_n 1, 1) := by decide +kernel
theorem dX6_readFrom_38 : decode cX6_readFrom 38 = .ok (.aload_n 0, 1) := by decide +kernel
theorem dX6_readFrom_39 : decode cX6_readFrom 39 = .ok (.getfield 10, 3) := by decide +kernel
theorem dX6_readFrom_42 : decode cX6_readFrom 42 = .ok (.iload_n 1, 1) := by decide +kernel
theorem dX6_readFrom_43 : decode cX6_readFrom 43 = .ok (.iload_n 2, 1) := by decide +kernel
theorem dX6_readFrom_44 : decode cX6_readFrom 44 = .ok (.invokestatic 166, 3) := by decide +kernel
theorem dX6_readFrom_47 : decode cX6_readFrom 47 = .ok (.invokevirtual 143, 3) := by decide +kernel
theorem dX6_readFrom_50 : decode cX6_readFrom 50 = .ok (.ireturn, 1) := by decide +kernel
theorem dX6_readFrom_51 : decode cX6_readFrom 51 = .ok (.aload_n 0, 1) := by decide +kernel
theorem dX6_readFrom_52 : decode cX6_readFrom 52 = .ok (.getfield 10, 3) := by decide +kernel
theorem dX6_readFrom_55 : decode cX6_readFrom 55 = .ok (.iload_n 1, 1) := by decide +kernel
theorem dX6_readFrom_56 : decode cX6_readFrom 56 = .ok (.iload_n 2, 1) := by decide +kernel
theorem dX6_readFrom_57 : decode cX6_readFrom 57 = .ok (.invokevirtual 143, 3) := by decide +kernel
theorem dX6_readFrom_60 : decode cX6_readFrom 60 = .ok (.ireturn, 1) := by decide +kernel
set_option maxRecDepth 200000 in
theorem ggX6_sizeOf_X6_requireLine : GoodIn wsX6_sizeOf wsX6_requireLine := goodIn_ca (goodIn_r _ [6, 7, 8, 1, 9, 10, 11, 12, 13, 14, 20, 21, 22, 23, 24, 25, 26, 27, 28, 29] rfl (by decide +kernel)) (goodIn_sub (fun _ h => List.mem_cons_of_mem _ (List.mem_append_right _ h)) (by decide +kernel))
set_option maxRecDepth 200000 in
theorem gX6_sizeOf_X6_requireLine : GoodIn wsX6_sizeOf (wsV RX6 63 RX6 yX6_requireLine wsX6_requireLine) := goodIn_app (goodIn_of _ (by decide +kernel)) ggX6_sizeOf_X6_requireLine
set_option maxRecDepth 200000 in
theorem ggX6_sizeOf_X4_sizeIn : GoodIn wsX6_sizeOf wsX4_sizeIn := goodIn_r _ [18, 14, 19, 24, 25, 26, 27, 28, 29] rfl (by decide +kernel)
set_option maxRecDepth 200000 in
theorem gX6_sizeOf_X4_sizeIn : GoodIn wsX6_sizeOf (wsV RX6 169 RX4 yX4_sizeIn wsX4_sizeIn) := goodIn_app (goodIn_of _ (by decide +kernel)) ggX6_sizeOf_X4_sizeIn
theorem dX6_sizeOf_0 : decode cX6_sizeOf 0 = .ok (.aload_n 0, 1) := by decide +kernel
theorem dX6_sizeOf_1 : decode cX6_sizeOf 1 = .ok (.iload_n 1, 1) := by decide +kernel
theorem dX6_sizeOf_2 : decode cX6_sizeOf 2 = .ok (.invokevirtual 63, 3) := by decide +kernel
theorem dX6_sizeOf_5 : decode cX6_sizeOf 5 = .ok (.aload_n 0, 1) := by decide +kernel
theorem dX6_sizeOf_6 : decode cX6_sizeOf 6 = .ok (.getfield 10, 3) := by decide +kernel
theorem dX6_sizeOf_9 : decode cX6_sizeOf 9 = .ok (.iload_n 1, 1) := by decide +kernel
theorem dX6_sizeOf_10 : decode cX6_sizeOf 10 = .ok (.invokevirtual 169, 3) := by decide +kernel
theorem dX6_sizeOf_13 : decode cX6_sizeOf 13 = .ok (.ireturn, 1) := by decide +kernel
set_option maxRecDepth 200000 in
theorem ggX6_bendOf_X6_requireNumber : GoodIn wsX6_bendOf wsX6_requireNumber := goodIn_ca (goodIn_r _ [6, 7, 8, 1, 9, 10, 11, 12, 13, 14, 15, 58, 59, 60, 61, 62, 63, 64, 65, 66, 67] rfl (by decide +kernel)) (goodIn_sub (fun _ h => List.mem_cons_of_mem _ (List.mem_append_right _ h)) (by decide +kernel))
set_option maxRecDepth 200000 in
theorem gX6_bendOf_X6_requireNumber : GoodIn wsX6_bendOf (wsV RX6 98 RX6 yX6_requireNumber wsX6_requireNumber) := goodIn_app (goodIn_of _ (by decide +kernel)) ggX6_bendOf_X6_requireNumber
set_option maxRecDepth 200000 in
theorem ggX6_bendOf_X2_bendOfPlace : GoodIn wsX6_bendOf wsX2_bendOfPlace := goodIn_r _ [19, 20, 21, 18, 22, 23, 24, 25, 12, 26, 14, 15, 27, 28, 29, 30, 31, 32, 10, 11, 13, 33, 34, 35, 36, 37, 38, 39, 40, 41, 42, 43, 44, 45, 46, 47, 48, 49, 50, 51, 52, 53, 54, 55, 56, 57, 62, 63, 64, 65, 66, 67] rfl (by decide +kernel)
set_option maxRecDepth 200000 in
theorem gX6_bendOf_X2_bendOfPlace : GoodIn wsX6_bendOf (va_wsS RX6 109 yX2_bendOfPlace wsX2_bendOfPlace) := goodIn_app (goodIn_of _ (by decide +kernel)) ggX6_bendOf_X2_bendOfPlace
theorem dX6_bendOf_0 : decode cX6_bendOf 0 = .ok (.aload_n 0, 1) := by decide +kernel
theorem dX6_bendOf_1 : decode cX6_bendOf 1 = .ok (.iload_n 1, 1) := by decide +kernel
theorem dX6_bendOf_2 : decode cX6_bendOf 2 = .ok (.iload_n 2, 1) := by decide +kernel
theorem dX6_bendOf_3 : decode cX6_bendOf 3 = .ok (.invokevirtual 98, 3) := by decide +kernel
theorem dX6_bendOf_6 : decode cX6_bendOf 6 = .ok (.aload_n 0, 1) := by decide +kernel
theorem dX6_bendOf_7 : decode cX6_bendOf 7 = .ok (.getfield 10, 3) := by decide +kernel
theorem dX6_bendOf_10 : decode cX6_bendOf 10 = .ok (.iload_n 1, 1) := by decide +kernel
theorem dX6_bendOf_11 : decode cX6_bendOf 11 = .ok (.iload_n 2, 1) := by decide +kernel
theorem dX6_bendOf_12 : decode cX6_bendOf 12 = .ok (.invokestatic 109, 3) := by decide +kernel
theorem dX6_bendOf_15 : decode cX6_bendOf 15 = .ok (.ireturn, 1) := by decide +kernel
set_option maxRecDepth 200000 in
theorem ggX6_whyNotLabelled_X6_requireNumber : GoodIn wsX6_whyNotLabelled wsX6_requireNumber := goodIn_ca (goodIn_r _ [6, 7, 8, 1, 9, 10, 11, 12, 13, 14, 15, 105, 106, 107, 108, 109, 110, 111, 112, 113, 114] rfl (by decide +kernel)) (goodIn_sub (fun _ h => List.mem_cons_of_mem _ (List.mem_append_right _ h)) (by decide +kernel))
set_option maxRecDepth 200000 in
theorem gX6_whyNotLabelled_X6_requireNumber : GoodIn wsX6_whyNotLabelled (wsV RX6 98 RX6 yX6_requireNumber wsX6_requireNumber) := goodIn_app (goodIn_of _ (by decide +kernel)) ggX6_whyNotLabelled_X6_requireNumber
set_option maxRecDepth 200000 in
theorem ggX6_whyNotLabelled_X2_reasonAgainst : GoodIn wsX6_whyNotLabelled wsX2_reasonAgainst := goodIn_r _ [19, 20, 21, 18, 22, 23, 24, 25, 26, 27, 28, 12, 29, 14, 15, 30, 31, 32, 33, 34, 35, 10, 11, 13, 36, 37, 38, 39, 40, 41, 42, 43, 44, 45, 46, 47, 48, 49, 50, 51, 52, 53, 54, 55, 56, 57, 58, 59, 60, 61, 62, 63, 64, 65, 66, 67, 68, 69, 70, 71, 72, 5, 73, 74, 75, 76, 77, 78, 79, 80, 81, 82, 83, 84, 85, 86, 87, 88, 89, 90, 91, 92, 93, 94, 95, 96, 97, 98, 99, 100, 101, 102, 103, 104, 109, 110, 111, 112, 113, 114] rfl (by decide +kernel)
set_option maxRecDepth 200000 in
theorem gX6_whyNotLabelled_X2_reasonAgainst : GoodIn wsX6_whyNotLabelled (va_wsS RX6 101 yX2_reasonAgainst wsX2_reasonAgainst) := goodIn_app (goodIn_of _ (by decide +kernel)) ggX6_whyNotLabelled_X2_reasonAgainst
theorem dX6_whyNotLabelled_0 : decode cX6_whyNotLabelled 0 = .ok (.aload_n 0, 1) := by decide +kernel
theorem dX6_whyNotLabelled_1 : decode cX6_whyNotLabelled 1 = .ok (.iload_n 1, 1) := by decide +kernel
theorem dX6_whyNotLabelled_2 : decode cX6_whyNotLabelled 2 = .ok (.iload_n 2, 1) := by decide +kernel
theorem dX6_whyNotLabelled_3 : decode cX6_whyNotLabelled 3 = .ok (.invokevirtual 98, 3) := by decide +kernel
theorem dX6_whyNotLabelled_6 : decode cX6_whyNotLabelled 6 = .ok (.aload_n 0, 1) := by decide +kernel
theorem dX6_whyNotLabelled_7 : decode cX6_whyNotLabelled 7 = .ok (.getfield 10, 3) := by decide +kernel
theorem dX6_whyNotLabelled_10 : decode cX6_whyNotLabelled 10 = .ok (.iload_n 1, 1) := by decide +kernel
theorem dX6_whyNotLabelled_11 : decode cX6_whyNotLabelled 11 = .ok (.iload_n 2, 1) := by decide +kernel
theorem dX6_whyNotLabelled_12 : decode cX6_whyNotLabelled 12 = .ok (.invokestatic 101, 3) := by decide +kernel
theorem dX6_whyNotLabelled_15 : decode cX6_whyNotLabelled 15 = .ok (.ireturn, 1) := by decide +kernel
set_option maxRecDepth 200000 in
theorem ggX6_placesOf_X6_requireLine : GoodIn wsX6_placesOf wsX6_requireLine := goodIn_ca (goodIn_r _ [6, 7, 8, 1, 9, 10, 11, 12, 13, 14, 111, 112, 113, 114, 115, 116, 117, 118, 119, 120] rfl (by decide +kernel)) (goodIn_sub (fun _ h => List.mem_cons_of_mem _ (List.mem_append_right _ h)) (by decide +kernel))
set_option maxRecDepth 200000 in
theorem gX6_placesOf_X6_requireLine : GoodIn wsX6_placesOf (wsV RX6 63 RX6 yX6_requireLine wsX6_requireLine) := goodIn_app (goodIn_of _ (by decide +kernel)) ggX6_placesOf_X6_requireLine
set_option maxRecDepth 200000 in
theorem ggX6_placesOf_X2_countPlaces : GoodIn wsX6_placesOf wsX2_countPlaces := goodIn_r _ [18, 19, 20, 21, 12, 22, 14, 23, 24, 25, 17, 26, 27, 28, 29, 30, 31, 32, 33, 34, 35, 36, 37, 38, 39, 40, 41, 42, 43, 44, 45, 46, 47, 48, 49, 50, 51, 52, 53, 54, 55, 56, 57, 58, 59, 60, 61, 62, 63, 64, 65, 66, 67, 68, 69, 70, 71, 72, 73, 74, 75, 76, 77, 78, 5, 79, 80, 81, 82, 83, 84, 85, 86, 87, 88, 89, 90, 91, 92, 93, 94, 95, 96, 97, 98, 99, 100, 101, 102, 103, 104, 105, 106, 107, 108, 109, 110, 115, 116, 117, 118, 119, 120] rfl (by decide +kernel)
set_option maxRecDepth 200000 in
theorem gX6_placesOf_X2_countPlaces : GoodIn wsX6_placesOf (va_wsS RX6 172 yX2_countPlaces wsX2_countPlaces) := goodIn_app (goodIn_of _ (by decide +kernel)) ggX6_placesOf_X2_countPlaces
theorem dX6_placesOf_0 : decode cX6_placesOf 0 = .ok (.aload_n 0, 1) := by decide +kernel
theorem dX6_placesOf_1 : decode cX6_placesOf 1 = .ok (.iload_n 1, 1) := by decide +kernel
theorem dX6_placesOf_2 : decode cX6_placesOf 2 = .ok (.invokevirtual 63, 3) := by decide +kernel
theorem dX6_placesOf_5 : decode cX6_placesOf 5 = .ok (.aload_n 0, 1) := by decide +kernel
theorem dX6_placesOf_6 : decode cX6_placesOf 6 = .ok (.getfield 10, 3) := by decide +kernel
theorem dX6_placesOf_9 : decode cX6_placesOf 9 = .ok (.iload_n 1, 1) := by decide +kernel
theorem dX6_placesOf_10 : decode cX6_placesOf 10 = .ok (.invokestatic 172, 3) := by decide +kernel
theorem dX6_placesOf_13 : decode cX6_placesOf 13 = .ok (.ireturn, 1) := by decide +kernel
set_option maxRecDepth 200000 in
theorem ggX6_bestPlace_X6_requireLine : GoodIn wsX6_bestPlace wsX6_requireLine := goodIn_ca (goodIn_r _ [6, 7, 8, 1, 9, 10, 11, 12, 13, 14, 108, 109, 110, 111, 112, 113, 114, 115, 116, 117] rfl (by decide +kernel)) (goodIn_sub (fun _ h => List.mem_cons_of_mem _ (List.mem_append_right _ h)) (by decide +kernel))
set_option maxRecDepth 200000 in
theorem gX6_bestPlace_X6_requireLine : GoodIn wsX6_bestPlace (wsV RX6 63 RX6 yX6_requireLine wsX6_requireLine) := goodIn_app (goodIn_of _ (by decide +kernel)) ggX6_bestPlace_X6_requireLine
set_option maxRecDepth 200000 in
theorem ggX6_bestPlace_X2_best : GoodIn wsX6_bestPlace wsX2_best := goodIn_r _ [18, 19, 20, 21, 12, 22, 14, 23, 24, 25, 17, 26, 27, 28, 29, 30, 31, 32, 33, 34, 35, 36, 37, 38, 39, 40, 41, 42, 43, 44, 45, 46, 47, 48, 49, 50, 51, 52, 53, 54, 55, 56, 57, 58, 59, 60, 61, 62, 63, 64, 65, 66, 67, 68, 69, 70, 71, 72, 73, 74, 75, 5, 76, 77, 78, 79, 80, 81, 82, 83, 84, 85, 86, 87, 88, 89, 90, 91, 92, 93, 94, 95, 96, 97, 98, 99, 100, 101, 102, 103, 104, 105, 106, 107, 112, 113, 114, 115, 116, 117] rfl (by decide +kernel)
set_option maxRecDepth 200000 in
theorem gX6_bestPlace_X2_best : GoodIn wsX6_bestPlace (va_wsS RX6 117 yX2_best wsX2_best) := goodIn_app (goodIn_of _ (by decide +kernel)) ggX6_bestPlace_X2_best
theorem dX6_bestPlace_0 : decode cX6_bestPlace 0 = .ok (.aload_n 0, 1) := by decide +kernel
theorem dX6_bestPlace_1 : decode cX6_bestPlace 1 = .ok (.iload_n 1, 1) := by decide +kernel
theorem dX6_bestPlace_2 : decode cX6_bestPlace 2 = .ok (.invokevirtual 63, 3) := by decide +kernel
theorem dX6_bestPlace_5 : decode cX6_bestPlace 5 = .ok (.aload_n 0, 1) := by decide +kernel
theorem dX6_bestPlace_6 : decode cX6_bestPlace 6 = .ok (.getfield 10, 3) := by decide +kernel
theorem dX6_bestPlace_9 : decode cX6_bestPlace 9 = .ok (.iload_n 1, 1) := by decide +kernel
theorem dX6_bestPlace_10 : decode cX6_bestPlace 10 = .ok (.invokestatic 117, 3) := by decide +kernel
theorem dX6_bestPlace_13 : decode cX6_bestPlace 13 = .ok (.ireturn, 1) := by decide +kernel
set_option maxRecDepth 200000 in
theorem ggX6_tooNear_X2_countPairsTooNear : GoodIn wsX6_tooNear wsX2_countPairsTooNear := goodIn_r _ [5, 6, 7, 8, 9, 10, 11, 12, 13, 4, 14, 15, 16, 17, 18, 19, 20, 21, 22, 23, 24, 25, 26, 27, 28, 29, 30, 31, 32, 33, 34, 35, 36, 37, 38, 39, 40, 41, 42, 43, 44, 45, 46, 47, 48, 49, 50, 51, 52, 53, 54, 55, 56, 57, 58, 59, 60, 65, 66, 67, 68, 69, 70] rfl (by decide +kernel)
set_option maxRecDepth 200000 in
theorem gX6_tooNear_X2_countPairsTooNear : GoodIn wsX6_tooNear (va_wsS RX6 175 yX2_countPairsTooNear wsX2_countPairsTooNear) := goodIn_app (goodIn_of _ (by decide +kernel)) ggX6_tooNear_X2_countPairsTooNear
theorem dX6_tooNear_0 : decode cX6_tooNear 0 = .ok (.aload_n 0, 1) := by decide +kernel
theorem dX6_tooNear_1 : decode cX6_tooNear 1 = .ok (.getfield 10, 3) := by decide +kernel
theorem dX6_tooNear_4 : decode cX6_tooNear 4 = .ok (.invokestatic 175, 3) := by decide +kernel
theorem dX6_tooNear_7 : decode cX6_tooNear 7 = .ok (.ireturn, 1) := by decide +kernel
set_option maxRecDepth 200000 in
theorem ggX6_isWithinByRays_X6_requireLine : GoodIn wsX6_isWithinByRays wsX6_requireLine := goodIn_ca (goodIn_r _ [6, 7, 8, 1, 9, 10, 11, 12, 13, 14, 52, 53, 54, 55, 56, 57, 58, 59, 60, 61] rfl (by decide +kernel)) (goodIn_sub (fun _ h => List.mem_cons_of_mem _ (List.mem_append_right _ h)) (by decide +kernel))
set_option maxRecDepth 200000 in
theorem gX6_isWithinByRays_X6_requireLine : GoodIn wsX6_isWithinByRays (wsV RX6 63 RX6 yX6_requireLine wsX6_requireLine) := goodIn_app (goodIn_of _ (by decide +kernel)) ggX6_isWithinByRays_X6_requireLine
set_option maxRecDepth 200000 in
theorem ggX6_isWithinByRays_X6_requirePoint : GoodIn wsX6_isWithinByRays wsX6_requirePoint := goodIn_ca (goodIn_r _ [17, 7, 8, 18, 19, 5, 20] rfl (by decide +kernel)) (goodIn_sub (fun _ h => List.mem_cons_of_mem _ (List.mem_append_right _ h)) (by decide +kernel))
set_option maxRecDepth 200000 in
theorem gX6_isWithinByRays_X6_requirePoint : GoodIn wsX6_isWithinByRays (va_wsS RX6 37 yX6_requirePoint wsX6_requirePoint) := goodIn_app (goodIn_of _ (by decide +kernel)) ggX6_isWithinByRays_X6_requirePoint
set_option maxRecDepth 200000 in
theorem ggX6_isWithinByRays_X5_goesRound : GoodIn wsX6_isWithinByRays wsX5_goesRound := goodIn_r _ [24, 25, 26, 27, 12, 28, 14, 29, 30, 31, 32, 33, 34, 35, 36, 37, 38, 39, 40, 41, 42, 43, 44, 23, 45, 46, 5, 47, 48, 49, 50, 51, 56, 57, 58, 59, 60, 61] rfl (by decide +kernel)
set_option maxRecDepth 200000 in
theorem gX6_isWithinByRays_X5_goesRound : GoodIn wsX6_isWithinByRays (va_wsS RX6 179 yX5_goesRound wsX5_goesRound) := goodIn_app (goodIn_of _ (by decide +kernel)) ggX6_isWithinByRays_X5_goesRound
theorem dX6_isWithinByRays_0 : decode cX6_isWithinByRays 0 = .ok (.aload_n 0, 1) := by decide +kernel
theorem dX6_isWithinByRays_1 : decode cX6_isWithinByRays 1 = .ok (.iload_n 1, 1) := by decide +kernel
theorem dX6_isWithinByRays_2 : decode cX6_isWithinByRays 2 = .ok (.invokevirtual 63, 3) := by decide +kernel
theorem dX6_isWithinByRays_5 : decode cX6_isWithinByRays 5 = .ok (.iload_n 2, 1) := by decide +kernel
theorem dX6_isWithinByRays_6 : decode cX6_isWithinByRays 6 = .ok (.invokestatic 37, 3) := by decide +kernel
theorem dX6_isWithinByRays_9 : decode cX6_isWithinByRays 9 = .ok (.aload_n 0, 1) := by decide +kernel
theorem dX6_isWithinByRays_10 : decode cX6_isWithinByRays 10 = .ok (.getfield 10, 3) := by decide +kernel
theorem dX6_isWithinByRays_13 : decode cX6_isWithinByRays 13 = .ok (.iload_n 1, 1) := by decide +kernel
theorem dX6_isWithinByRays_14 : decode cX6_isWithinByRays 14 = .ok (.iload_n 2, 1) := by decide +kernel
theorem dX6_isWithinByRays_15 : decode cX6_isWithinByRays 15 = .ok (.invokestatic 179, 3) := by decide +kernel
theorem dX6_isWithinByRays_18 : decode cX6_isWithinByRays 18 = .ok (.ireturn, 1) := by decide +kernel
set_option maxRecDepth 200000 in
theorem ggX6_isWithinBySpreading_X6_requireLine : GoodIn wsX6_isWithinBySpreading wsX6_requireLine := goodIn_ca (goodIn_r _ [7, 8, 9, 1, 10, 11, 12, 13, 14, 15, 76, 77, 78, 79, 80, 81, 82, 83, 84, 85] rfl (by decide +kernel)) (goodIn_sub (fun _ h => List.mem_cons_of_mem _ (List.mem_append_right _ h)) (by decide +kernel))
set_option maxRecDepth 200000 in
theorem gX6_isWithinBySpreading_X6_requireLine : GoodIn wsX6_isWithinBySpreading (wsV RX6 63 RX6 yX6_requireLine wsX6_requireLine) := goodIn_app (goodIn_of _ (by decide +kernel)) ggX6_isWithinBySpreading_X6_requireLine
set_option maxRecDepth 200000 in
theorem ggX6_isWithinBySpreading_X6_requirePoint : GoodIn wsX6_isWithinBySpreading wsX6_requirePoint := goodIn_ca (goodIn_r _ [18, 8, 9, 19, 20, 6, 21] rfl (by decide +kernel)) (goodIn_sub (fun _ h => List.mem_cons_of_mem _ (List.mem_append_right _ h)) (by decide +kernel))
set_option maxRecDepth 200000 in
theorem gX6_isWithinBySpreading_X6_requirePoint : GoodIn wsX6_isWithinBySpreading (va_wsS RX6 37 yX6_requirePoint wsX6_requirePoint) := goodIn_app (goodIn_of _ (by decide +kernel)) ggX6_isWithinBySpreading_X6_requirePoint
set_option maxRecDepth 200000 in
theorem ggX6_isWithinBySpreading_X4_isRing : GoodIn wsX6_isWithinBySpreading wsX4_isRing := goodIn_r _ [25, 15, 26, 27, 80, 81, 82, 83, 84, 85] rfl (by decide +kernel)
set_option maxRecDepth 200000 in
theorem gX6_isWithinBySpreading_X4_isRing : GoodIn wsX6_isWithinBySpreading (wsV RX6 78 RX4 yX4_isRing wsX4_isRing) := goodIn_app (goodIn_of _ (by decide +kernel)) ggX6_isWithinBySpreading_X4_isRing
set_option maxRecDepth 200000 in
theorem ggX6_isWithinBySpreading_X0_drawLine : GoodIn wsX6_isWithinBySpreading wsX0_drawLine := goodIn_r _ [32, 33, 34, 35, 36, 13, 37, 15, 26, 38, 39, 40, 41, 27, 42, 43, 31, 44, 45, 6, 46, 47, 48, 49, 50, 51, 52, 53, 54, 55, 56, 57, 58, 59, 60, 61, 86, 87, 88, 80, 81, 82, 83, 84, 85] rfl (by decide +kernel)
set_option maxRecDepth 200000 in
theorem gX6_isWithinBySpreading_X0_drawLine : GoodIn wsX6_isWithinBySpreading (wsV RX6 184 RX0 yX0_drawLine wsX0_drawLine) := goodIn_app (goodIn_of _ (by decide +kernel)) ggX6_isWithinBySpreading_X0_drawLine
set_option maxRecDepth 200000 in
theorem ggX6_isWithinBySpreading_X0_spread : GoodIn wsX6_isWithinBySpreading wsX0_spread := goodIn_r _ [65, 66, 67, 68, 69, 70, 31, 71, 33, 59, 60, 61, 86, 87, 88] rfl (by decide +kernel)
set_option maxRecDepth 200000 in
theorem gX6_isWithinBySpreading_X0_spread : GoodIn wsX6_isWithinBySpreading (wsV RX6 188 RX0 yX0_spread wsX0_spread) := goodIn_app (goodIn_of _ (by decide +kernel)) ggX6_isWithinBySpreading_X0_spread
set_option maxRecDepth 200000 in
theorem ggX6_isWithinBySpreading_X0_isLeftOut : GoodIn wsX6_isWithinBySpreading wsX0_isLeftOut := goodIn_r _ [75, 33, 42, 43, 31, 44, 45, 6, 46, 47, 48, 59, 60, 61, 86, 87, 88] rfl (by decide +kernel)
set_option maxRecDepth 200000 in
theorem gX6_isWithinBySpreading_X0_isLeftOut : GoodIn wsX6_isWithinBySpreading (wsV RX6 191 RX0 yX0_isLeftOut wsX0_isLeftOut) := goodIn_app (goodIn_of _ (by decide +kernel)) ggX6_isWithinBySpreading_X0_isLeftOut
theorem dX6_isWithinBySpreading_0 : decode cX6_isWithinBySpreading 0 = .ok (.aload_n 0, 1) := by decide +kernel
theorem dX6_isWithinBySpreading_1 : decode cX6_isWithinBySpreading 1 = .ok (.iload_n 1, 1) := by decide +kernel
theorem dX6_isWithinBySpreading_2 : decode cX6_isWithinBySpreading 2 = .ok (.invokevirtual 63, 3) := by decide +kernel
theorem dX6_isWithinBySpreading_5 : decode cX6_isWithinBySpreading 5 = .ok (.iload_n 2, 1) := by decide +kernel
theorem dX6_isWithinBySpreading_6 : decode cX6_isWithinBySpreading 6 = .ok (.invokestatic 37, 3) := by decide +kernel
theorem dX6_isWithinBySpreading_9 : decode cX6_isWithinBySpreading 9 = .ok (.aload_n 0, 1) := by decide +kernel
theorem dX6_isWithinBySpreading_10 : decode cX6_isWithinBySpreading 10 = .ok (.getfield 10, 3) := by decide +kernel
theorem dX6_isWithinBySpreading_13 : decode cX6_isWithinBySpreading 13 = .ok (.iload_n 1, 1) := by decide +kernel
theorem dX6_isWithinBySpreading_14 : decode cX6_isWithinBySpreading 14 = .ok (.invokevirtual 78, 3) := by decide +kernel
theorem dX6_isWithinBySpreading_17 : decode cX6_isWithinBySpreading 17 = .ok (.ifCond .ne 5, 3) := by decide +kernel
theorem dX6_isWithinBySpreading_20 : decode cX6_isWithinBySpreading 20 = .ok (.iconst 0, 1) := by decide +kernel
theorem dX6_isWithinBySpreading_21 : decode cX6_isWithinBySpreading 21 = .ok (.ireturn, 1) := by decide +kernel
theorem dX6_isWithinBySpreading_22 : decode cX6_isWithinBySpreading 22 = .ok (.aload_n 0, 1) := by decide +kernel
theorem dX6_isWithinBySpreading_23 : decode cX6_isWithinBySpreading 23 = .ok (.getfield 33, 3) := by decide +kernel
theorem dX6_isWithinBySpreading_26 : decode cX6_isWithinBySpreading 26 = .ok (.aload_n 0, 1) := by decide +kernel
theorem dX6_isWithinBySpreading_27 : decode cX6_isWithinBySpreading 27 = .ok (.getfield 10, 3) := by decide +kernel
theorem dX6_isWithinBySpreading_30 : decode cX6_isWithinBySpreading 30 = .ok (.iload_n 1, 1) := by decide +kernel
theorem dX6_isWithinBySpreading_31 : decode cX6_isWithinBySpreading 31 = .ok (.invokevirtual 184, 3) := by decide +kernel
theorem dX6_isWithinBySpreading_34 : decode cX6_isWithinBySpreading 34 = .ok (.aload_n 0, 1) := by decide +kernel
theorem dX6_isWithinBySpreading_35 : decode cX6_isWithinBySpreading 35 = .ok (.getfield 33, 3) := by decide +kernel
theorem dX6_isWithinBySpreading_38 : decode cX6_isWithinBySpreading 38 = .ok (.invokevirtual 188, 3) := by decide +kernel
theorem dX6_isWithinBySpreading_41 : decode cX6_isWithinBySpreading 41 = .ok (.aload_n 0, 1) := by decide +kernel
theorem dX6_isWithinBySpreading_42 : decode cX6_isWithinBySpreading 42 = .ok (.getfield 33, 3) := by decide +kernel
theorem dX6_isWithinBySpreading_45 : decode cX6_isWithinBySpreading 45 = .ok (.iload_n 2, 1) := by decide +kernel
theorem dX6_isWithinBySpreading_46 : decode cX6_isWithinBySpreading 46 = .ok (.invokevirtual 191, 3) := by decide +kernel
theorem dX6_isWithinBySpreading_49 : decode cX6_isWithinBySpreading 49 = .ok (.ireturn, 1) := by decide +kernel
set_option maxRecDepth 200000 in
theorem ggX6_pointsWithin_X6_requireLine : GoodIn wsX6_pointsWithin wsX6_requireLine := goodIn_ca (goodIn_r _ [6, 7, 8, 1, 9, 10, 11, 12, 13, 14, 46, 47, 48, 49, 50, 51, 52, 53, 54, 55] rfl (by decide +kernel)) (goodIn_sub (fun _ h => List.mem_cons_of_mem _ (List.mem_append_right _ h)) (by decide +kernel))
set_option maxRecDepth 200000 in
theorem gX6_pointsWithin_X6_requireLine : GoodIn wsX6_pointsWithin (wsV RX6 63 RX6 yX6_requireLine wsX6_requireLine) := goodIn_app (goodIn_of _ (by decide +kernel)) ggX6_pointsWithin_X6_requireLine
set_option maxRecDepth 200000 in
theorem ggX6_pointsWithin_X5_goesRound : GoodIn wsX6_pointsWithin wsX5_goesRound := goodIn_r _ [18, 19, 20, 21, 12, 22, 14, 23, 24, 25, 26, 27, 28, 29, 30, 31, 32, 33, 34, 35, 36, 37, 38, 17, 39, 40, 5, 41, 42, 43, 44, 45, 50, 51, 52, 53, 54, 55] rfl (by decide +kernel)
set_option maxRecDepth 200000 in
theorem gX6_pointsWithin_X5_goesRound : GoodIn wsX6_pointsWithin (va_wsS RX6 179 yX5_goesRound wsX5_goesRound) := goodIn_app (goodIn_of _ (by decide +kernel)) ggX6_pointsWithin_X5_goesRound
theorem dX6_pointsWithin_0 : decode cX6_pointsWithin 0 = .ok (.aload_n 0, 1) := by decide +kernel
theorem dX6_pointsWithin_1 : decode cX6_pointsWithin 1 = .ok (.iload_n 1, 1) := by decide +kernel
theorem dX6_pointsWithin_2 : decode cX6_pointsWithin 2 = .ok (.invokevirtual 63, 3) := by decide +kernel
theorem dX6_pointsWithin_5 : decode cX6_pointsWithin 5 = .ok (.iconst 0, 1) := by decide +kernel
theorem dX6_pointsWithin_6 : decode cX6_pointsWithin 6 = .ok (.istore_n 2, 1) := by decide +kernel
theorem dX6_pointsWithin_7 : decode cX6_pointsWithin 7 = .ok (.iconst 0, 1) := by decide +kernel
theorem dX6_pointsWithin_8 : decode cX6_pointsWithin 8 = .ok (.istore_n 3, 1) := by decide +kernel
theorem dX6_pointsWithin_9 : decode cX6_pointsWithin 9 = .ok (.iload_n 3, 1) := by decide +kernel
theorem dX6_pointsWithin_10 : decode cX6_pointsWithin 10 = .ok (.sipush 384, 3) := by decide +kernel
theorem dX6_pointsWithin_13 : decode cX6_pointsWithin 13 = .ok (.if_icmp .ge 24, 3) := by decide +kernel
theorem dX6_pointsWithin_16 : decode cX6_pointsWithin 16 = .ok (.aload_n 0, 1) := by decide +kernel
theorem dX6_pointsWithin_17 : decode cX6_pointsWithin 17 = .ok (.getfield 10, 3) := by decide +kernel
theorem dX6_pointsWithin_20 : decode cX6_pointsWithin 20 = .ok (.iload_n 1, 1) := by decide +kernel
theorem dX6_pointsWithin_21 : decode cX6_pointsWithin 21 = .ok (.iload_n 3, 1) := by decide +kernel
theorem dX6_pointsWithin_22 : decode cX6_pointsWithin 22 = .ok (.invokestatic 179, 3) := by decide +kernel
theorem dX6_pointsWithin_25 : decode cX6_pointsWithin 25 = .ok (.ifCond .eq 6, 3) := by decide +kernel
theorem dX6_pointsWithin_28 : decode cX6_pointsWithin 28 = .ok (.iinc 2 1, 3) := by decide +kernel
theorem dX6_pointsWithin_31 : decode cX6_pointsWithin 31 = .ok (.iinc 3 1, 3) := by decide +kernel
theorem dX6_pointsWithin_34 : decode cX6_pointsWithin 34 = .ok (.goto (-25), 3) := by decide +kernel
theorem dX6_pointsWithin_37 : decode cX6_pointsWithin 37 = .ok (.iload_n 2, 1) := by decide +kernel
theorem dX6_pointsWithin_38 : decode cX6_pointsWithin 38 = .ok (.ireturn, 1) := by decide +kernel
set_option maxRecDepth 200000 in
theorem ggX6_lineRound_X6_requireLine : GoodIn wsX6_lineRound wsX6_requireLine := goodIn_ca (goodIn_r _ [6, 7, 8, 1, 9, 10, 11, 12, 13, 14, 53, 54, 55, 56, 57, 58, 59, 60, 61, 62] rfl (by decide +kernel)) (goodIn_sub (fun _ h => List.mem_cons_of_mem _ (List.mem_append_right _ h)) (by decide +kernel))
set_option maxRecDepth 200000 in
theorem gX6_lineRound_X6_requireLine : GoodIn wsX6_lineRound (wsV RX6 63 RX6 yX6_requireLine wsX6_requireLine) := goodIn_app (goodIn_of _ (by decide +kernel)) ggX6_lineRound_X6_requireLine
set_option maxRecDepth 200000 in
theorem ggX6_lineRound_X5_innermostRound : GoodIn wsX6_lineRound wsX5_innermostRound := goodIn_r _ [18, 19, 20, 21, 12, 22, 14, 23, 24, 25, 26, 27, 28, 29, 30, 17, 31, 32, 33, 34, 35, 36, 37, 38, 39, 40, 41, 42, 43, 44, 45, 46, 47, 48, 5, 49, 50, 51, 52, 57, 58, 59, 60, 61, 62] rfl (by decide +kernel)
set_option maxRecDepth 200000 in
theorem gX6_lineRound_X5_innermostRound : GoodIn wsX6_lineRound (va_wsS RX6 194 yX5_innermostRound wsX5_innermostRound) := goodIn_app (goodIn_of _ (by decide +kernel)) ggX6_lineRound_X5_innermostRound
theorem dX6_lineRound_0 : decode cX6_lineRound 0 = .ok (.aload_n 0, 1) := by decide +kernel
theorem dX6_lineRound_1 : decode cX6_lineRound 1 = .ok (.iload_n 1, 1) := by decide +kernel
theorem dX6_lineRound_2 : decode cX6_lineRound 2 = .ok (.invokevirtual 63, 3) := by decide +kernel
theorem dX6_lineRound_5 : decode cX6_lineRound 5 = .ok (.aload_n 0, 1) := by decide +kernel
theorem dX6_lineRound_6 : decode cX6_lineRound 6 = .ok (.getfield 10, 3) := by decide +kernel
theorem dX6_lineRound_9 : decode cX6_lineRound 9 = .ok (.iload_n 1, 1) := by decide +kernel
theorem dX6_lineRound_10 : decode cX6_lineRound 10 = .ok (.invokestatic 194, 3) := by decide +kernel
theorem dX6_lineRound_13 : decode cX6_lineRound 13 = .ok (.ireturn, 1) := by decide +kernel
set_option maxRecDepth 200000 in
theorem ggX6_isSteady_X6_requireLine : GoodIn wsX6_isSteady wsX6_requireLine := goodIn_ca (goodIn_r _ [10, 11, 12, 1, 13, 14, 15, 16, 17, 18, 62, 63, 64, 65, 66, 67, 68, 69, 70, 71] rfl (by decide +kernel)) (goodIn_sub (fun _ h => List.mem_cons_of_mem _ (List.mem_append_right _ h)) (by decide +kernel))
set_option maxRecDepth 200000 in
theorem gX6_isSteady_X6_requireLine : GoodIn wsX6_isSteady (wsV RX6 63 RX6 yX6_requireLine wsX6_requireLine) := goodIn_app (goodIn_of _ (by decide +kernel)) ggX6_isSteady_X6_requireLine
set_option maxRecDepth 200000 in
theorem ggX6_isSteady_X5_innermostRound : GoodIn wsX6_isSteady wsX5_innermostRound := goodIn_r _ [22, 23, 24, 25, 16, 26, 18, 27, 28, 29, 30, 31, 32, 33, 34, 21, 35, 36, 37, 38, 39, 40, 41, 42, 43, 44, 45, 46, 47, 48, 49, 50, 51, 52, 9, 53, 54, 55, 56, 66, 67, 68, 69, 70, 71] rfl (by decide +kernel)
set_option maxRecDepth 200000 in
theorem gX6_isSteady_X5_innermostRound : GoodIn wsX6_isSteady (va_wsS RX6 194 yX5_innermostRound wsX5_innermostRound) := goodIn_app (goodIn_of _ (by decide +kernel)) ggX6_isSteady_X5_innermostRound
set_option maxRecDepth 200000 in
theorem ggX6_isSteady_X4_levelIn : GoodIn wsX6_isSteady wsX4_levelIn := goodIn_r _ [60, 18, 61, 66, 67, 68, 69, 70, 71] rfl (by decide +kernel)
set_option maxRecDepth 200000 in
theorem gX6_isSteady_X4_levelIn : GoodIn wsX6_isSteady (wsV RX6 88 RX4 yX4_levelIn wsX4_levelIn) := goodIn_app (goodIn_of _ (by decide +kernel)) ggX6_isSteady_X4_levelIn
theorem dX6_isSteady_0 : decode cX6_isSteady 0 = .ok (.aload_n 0, 1) := by decide +kernel
theorem dX6_isSteady_1 : decode cX6_isSteady 1 = .ok (.iload_n 1, 1) := by decide +kernel
theorem dX6_isSteady_2 : decode cX6_isSteady 2 = .ok (.invokevirtual 63, 3) := by decide +kernel
theorem dX6_isSteady_5 : decode cX6_isSteady 5 = .ok (.aload_n 0, 1) := by decide +kernel
theorem dX6_isSteady_6 : decode cX6_isSteady 6 = .ok (.getfield 10, 3) := by decide +kernel
