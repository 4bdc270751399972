theorem dX7_takeSnapshot_13 : decode cX7_takeSnapshot 13 = .ok (.sipush 514, 3) := by decide +kernel
theorem dX7_takeSnapshot_16 : decode cX7_takeSnapshot 16 = .ok (.if_icmp .ge 21, 3) := by decide +kernel
theorem dX7_takeSnapshot_19 : decode cX7_takeSnapshot 19 = .ok (.aload_n 0, 1) := by decide +kernel
theorem dX7_takeSnapshot_20 : decode cX7_takeSnapshot 20 = .ok (.getfield 16, 3) := by decide +kernel
theorem dX7_takeSnapshot_23 : decode cX7_takeSnapshot 23 = .ok (.iload_n 1, 1) := by decide +kernel
theorem dX7_takeSnapshot_24 : decode cX7_takeSnapshot 24 = .ok (.aload_n 0, 1) := by decide +kernel
theorem dX7_takeSnapshot_25 : decode cX7_takeSnapshot 25 = .ok (.getfield 7, 3) := by decide +kernel
theorem dX7_takeSnapshot_28 : decode cX7_takeSnapshot 28 = .ok (.iload_n 1, 1) := by decide +kernel
theorem dX7_takeSnapshot_29 : decode cX7_takeSnapshot 29 = .ok (.iaload, 1) := by decide +kernel
theorem dX7_takeSnapshot_30 : decode cX7_takeSnapshot 30 = .ok (.iastore, 1) := by decide +kernel
theorem dX7_takeSnapshot_31 : decode cX7_takeSnapshot 31 = .ok (.iinc 1 1, 3) := by decide +kernel
theorem dX7_takeSnapshot_34 : decode cX7_takeSnapshot 34 = .ok (.goto (-22), 3) := by decide +kernel
theorem dX7_takeSnapshot_37 : decode cX7_takeSnapshot 37 = .ok (.aload_n 0, 1) := by decide +kernel
theorem dX7_takeSnapshot_38 : decode cX7_takeSnapshot 38 = .ok (.getfield 7, 3) := by decide +kernel
theorem dX7_takeSnapshot_41 : decode cX7_takeSnapshot 41 = .ok (.iconst 0, 1) := by decide +kernel
theorem dX7_takeSnapshot_42 : decode cX7_takeSnapshot 42 = .ok (.iaload, 1) := by decide +kernel
theorem dX7_takeSnapshot_43 : decode cX7_takeSnapshot 43 = .ok (.ireturn, 1) := by decide +kernel
set_option maxRecDepth 200000 in
theorem ggX7_restoreSnapshot_X7_fails : GoodIn wsX7_restoreSnapshot wsX7_fails := goodIn_r _ [9, 1, 16, 17, 18, 19, 20, 21, 22, 23, 24, 25, 26, 27, 28] rfl (by decide +kernel)
set_option maxRecDepth 200000 in
theorem gX7_restoreSnapshot_X7_fails : GoodIn wsX7_restoreSnapshot (wsV RX7 137 RX7 yX7_fails wsX7_fails) := goodIn_app (goodIn_of _ (by decide +kernel)) ggX7_restoreSnapshot_X7_fails
set_option maxRecDepth 200000 in
theorem ggX7_restoreSnapshot_X7_records : GoodIn wsX7_restoreSnapshot wsX7_records := goodIn_r _ [13, 14, 15, 3, 16, 17, 18, 19, 20, 21, 22, 23, 24, 25, 26, 27, 28] rfl (by decide +kernel)
set_option maxRecDepth 200000 in
theorem gX7_restoreSnapshot_X7_records : GoodIn wsX7_restoreSnapshot (wsV RX7 128 RX7 yX7_records wsX7_records) := goodIn_app (goodIn_of _ (by decide +kernel)) ggX7_restoreSnapshot_X7_records
theorem dX7_restoreSnapshot_0 : decode cX7_restoreSnapshot 0 = .ok (.aload_n 0, 1) := by decide +kernel
theorem dX7_restoreSnapshot_1 : decode cX7_restoreSnapshot 1 = .ok (.iconst 0, 1) := by decide +kernel
theorem dX7_restoreSnapshot_2 : decode cX7_restoreSnapshot 2 = .ok (.putfield 22, 3) := by decide +kernel
theorem dX7_restoreSnapshot_5 : decode cX7_restoreSnapshot 5 = .ok (.aload_n 0, 1) := by decide +kernel
theorem dX7_restoreSnapshot_6 : decode cX7_restoreSnapshot 6 = .ok (.getfield 208, 3) := by decide +kernel
theorem dX7_restoreSnapshot_9 : decode cX7_restoreSnapshot 9 = .ok (.ifCond .ne 9, 3) := by decide +kernel
theorem dX7_restoreSnapshot_12 : decode cX7_restoreSnapshot 12 = .ok (.aload_n 0, 1) := by decide +kernel
theorem dX7_restoreSnapshot_13 : decode cX7_restoreSnapshot 13 = .ok (.iconst 1, 1) := by decide +kernel
theorem dX7_restoreSnapshot_14 : decode cX7_restoreSnapshot 14 = .ok (.invokevirtual 137, 3) := by decide +kernel
theorem dX7_restoreSnapshot_17 : decode cX7_restoreSnapshot 17 = .ok (.ireturn, 1) := by decide +kernel
theorem dX7_restoreSnapshot_18 : decode cX7_restoreSnapshot 18 = .ok (.aload_n 0, 1) := by decide +kernel
theorem dX7_restoreSnapshot_19 : decode cX7_restoreSnapshot 19 = .ok (.invokevirtual 128, 3) := by decide +kernel
theorem dX7_restoreSnapshot_22 : decode cX7_restoreSnapshot 22 = .ok (.iconst 0, 1) := by decide +kernel
theorem dX7_restoreSnapshot_23 : decode cX7_restoreSnapshot 23 = .ok (.istore_n 1, 1) := by decide +kernel
theorem dX7_restoreSnapshot_24 : decode cX7_restoreSnapshot 24 = .ok (.iload_n 1, 1) := by decide +kernel
theorem dX7_restoreSnapshot_25 : decode cX7_restoreSnapshot 25 = .ok (.sipush 514, 3) := by decide +kernel
theorem dX7_restoreSnapshot_28 : decode cX7_restoreSnapshot 28 = .ok (.if_icmp .ge 21, 3) := by decide +kernel
theorem dX7_restoreSnapshot_31 : decode cX7_restoreSnapshot 31 = .ok (.aload_n 0, 1) := by decide +kernel
theorem dX7_restoreSnapshot_32 : decode cX7_restoreSnapshot 32 = .ok (.getfield 7, 3) := by decide +kernel
theorem dX7_restoreSnapshot_35 : decode cX7_restoreSnapshot 35 = .ok (.iload_n 1, 1) := by decide +kernel
theorem dX7_restoreSnapshot_36 : decode cX7_restoreSnapshot 36 = .ok (.aload_n 0, 1) := by decide +kernel
theorem dX7_restoreSnapshot_37 : decode cX7_restoreSnapshot 37 = .ok (.getfield 16, 3) := by decide +kernel
theorem dX7_restoreSnapshot_40 : decode cX7_restoreSnapshot 40 = .ok (.iload_n 1, 1) := by decide +kernel
theorem dX7_restoreSnapshot_41 : decode cX7_restoreSnapshot 41 = .ok (.iaload, 1) := by decide +kernel
theorem dX7_restoreSnapshot_42 : decode cX7_restoreSnapshot 42 = .ok (.iastore, 1) := by decide +kernel
theorem dX7_restoreSnapshot_43 : decode cX7_restoreSnapshot 43 = .ok (.iinc 1 1, 3) := by decide +kernel
theorem dX7_restoreSnapshot_46 : decode cX7_restoreSnapshot 46 = .ok (.goto (-22), 3) := by decide +kernel
theorem dX7_restoreSnapshot_49 : decode cX7_restoreSnapshot 49 = .ok (.aload_n 0, 1) := by decide +kernel
theorem dX7_restoreSnapshot_50 : decode cX7_restoreSnapshot 50 = .ok (.getfield 7, 3) := by decide +kernel
theorem dX7_restoreSnapshot_53 : decode cX7_restoreSnapshot 53 = .ok (.iconst 0, 1) := by decide +kernel
theorem dX7_restoreSnapshot_54 : decode cX7_restoreSnapshot 54 = .ok (.iaload, 1) := by decide +kernel
theorem dX7_restoreSnapshot_55 : decode cX7_restoreSnapshot 55 = .ok (.ireturn, 1) := by decide +kernel
theorem dJ9_abs_0f7a4_0 : decode cJ9_abs_0f7a4 0 = .ok (.iload_n 0, 1) := by decide +kernel
theorem dJ9_abs_0f7a4_1 : decode cJ9_abs_0f7a4 1 = .ok (.ifCond .ge 8, 3) := by decide +kernel
theorem dJ9_abs_0f7a4_4 : decode cJ9_abs_0f7a4 4 = .ok (.iload_n 0, 1) := by decide +kernel
theorem dJ9_abs_0f7a4_5 : decode cJ9_abs_0f7a4 5 = .ok (.ineg, 1) := by decide +kernel
theorem dJ9_abs_0f7a4_6 : decode cJ9_abs_0f7a4 6 = .ok (.goto 4, 3) := by decide +kernel
theorem dJ9_abs_0f7a4_9 : decode cJ9_abs_0f7a4 9 = .ok (.iload_n 0, 1) := by decide +kernel
theorem dJ9_abs_0f7a4_10 : decode cJ9_abs_0f7a4 10 = .ok (.ireturn, 1) := by decide +kernel
theorem dJ9_max_7cf53_0 : decode cJ9_max_7cf53 0 = .ok (.iload_n 0, 1) := by decide +kernel
theorem dJ9_max_7cf53_1 : decode cJ9_max_7cf53 1 = .ok (.iload_n 1, 1) := by decide +kernel
theorem dJ9_max_7cf53_2 : decode cJ9_max_7cf53 2 = .ok (.if_icmp .lt 7, 3) := by decide +kernel
theorem dJ9_max_7cf53_5 : decode cJ9_max_7cf53 5 = .ok (.iload_n 0, 1) := by decide +kernel
theorem dJ9_max_7cf53_6 : decode cJ9_max_7cf53 6 = .ok (.goto 4, 3) := by decide +kernel
theorem dJ9_max_7cf53_9 : decode cJ9_max_7cf53 9 = .ok (.iload_n 1, 1) := by decide +kernel
theorem dJ9_max_7cf53_10 : decode cJ9_max_7cf53 10 = .ok (.ireturn, 1) := by decide +kernel
theorem dJ9_min_7cf53_0 : decode cJ9_min_7cf53 0 = .ok (.iload_n 0, 1) := by decide +kernel
theorem dJ9_min_7cf53_1 : decode cJ9_min_7cf53 1 = .ok (.iload_n 1, 1) := by decide +kernel
theorem dJ9_min_7cf53_2 : decode cJ9_min_7cf53 2 = .ok (.if_icmp .gt 7, 3) := by decide +kernel
theorem dJ9_min_7cf53_5 : decode cJ9_min_7cf53 5 = .ok (.iload_n 0, 1) := by decide +kernel
theorem dJ9_min_7cf53_6 : decode cJ9_min_7cf53 6 = .ok (.goto 4, 3) := by decide +kernel
theorem dJ9_min_7cf53_9 : decode cJ9_min_7cf53 9 = .ok (.iload_n 1, 1) := by decide +kernel
theorem dJ9_min_7cf53_10 : decode cJ9_min_7cf53 10 = .ok (.ireturn, 1) := by decide +kernel
set_option maxRecDepth 200000 in
theorem ggL_begin_X6_begin : GoodIn wsL_begin wsX6_begin := goodIn_ca (goodIn_ca (goodIn_ca (goodIn_r _ [8, 9, 10, 11, 12, 13, 14, 7, 15, 16, 17, 18, 19, 20, 21, 22, 23, 24, 25, 26, 27, 28, 29, 30, 31, 32, 33, 34, 35, 36, 37, 38, 39, 40, 41, 42, 43, 44, 45, 46, 47, 48, 49, 50, 51, 52, 53, 54, 55, 56, 57, 58, 59, 60, 61, 62, 63, 64, 65, 66, 67, 68, 69, 70, 71, 72, 73, 74, 75, 76, 77, 78, 79, 80, 81, 82, 83, 84, 85, 86, 87, 88, 89, 90, 91, 92, 93, 94] rfl (by decide +kernel)) (goodIn_sub (fun _ h => List.mem_cons_of_mem _ (List.mem_append_left _ (List.mem_append_left _ (List.mem_append_right _ h)))) (by decide +kernel))) (goodIn_sub (fun _ h => List.mem_cons_of_mem _ (List.mem_append_left _ (List.mem_append_right _ h))) (by decide +kernel))) (goodIn_sub (fun _ h => List.mem_cons_of_mem _ (List.mem_append_right _ h)) (by decide +kernel))
set_option maxRecDepth 200000 in
theorem gL_begin_X6_begin : GoodIn wsL_begin (wsV RL 7 RX6 yX6_begin wsX6_begin) := goodIn_app (goodIn_of _ (by decide +kernel)) ggL_begin_X6_begin
theorem dL_begin_0 : decode cL_begin 0 = .ok (.aload_n 3, 1) := by decide +kernel
theorem dL_begin_1 : decode cL_begin 1 = .ok (.iconst 0, 1) := by decide +kernel
theorem dL_begin_2 : decode cL_begin 2 = .ok (.aload_n 0, 1) := by decide +kernel
theorem dL_begin_3 : decode cL_begin 3 = .ok (.iload_n 1, 1) := by decide +kernel
theorem dL_begin_4 : decode cL_begin 4 = .ok (.iload_n 2, 1) := by decide +kernel
theorem dL_begin_5 : decode cL_begin 5 = .ok (.invokevirtual 7, 3) := by decide +kernel
theorem dL_begin_8 : decode cL_begin 8 = .ok (.i2l, 1) := by decide +kernel
theorem dL_begin_9 : decode cL_begin 9 = .ok (.lastore, 1) := by decide +kernel
theorem dL_begin_10 : decode cL_begin 10 = .ok (.goto 15, 3) := by decide +kernel
theorem dL_begin_13 : decode cL_begin 13 = .ok (.astore 4, 2) := by decide +kernel
theorem dL_begin_15 : decode cL_begin 15 = .ok (.iconst 1, 1) := by decide +kernel
theorem dL_begin_16 : decode cL_begin 16 = .ok (.ireturn, 1) := by decide +kernel
theorem dL_begin_17 : decode cL_begin 17 = .ok (.astore 4, 2) := by decide +kernel
theorem dL_begin_19 : decode cL_begin 19 = .ok (.iconst 2, 1) := by decide +kernel
theorem dL_begin_20 : decode cL_begin 20 = .ok (.ireturn, 1) := by decide +kernel
theorem dL_begin_21 : decode cL_begin 21 = .ok (.astore 4, 2) := by decide +kernel
theorem dL_begin_23 : decode cL_begin 23 = .ok (.iconst 3, 1) := by decide +kernel
theorem dL_begin_24 : decode cL_begin 24 = .ok (.ireturn, 1) := by decide +kernel
theorem dL_begin_25 : decode cL_begin 25 = .ok (.iconst 0, 1) := by decide +kernel
theorem dL_begin_26 : decode cL_begin 26 = .ok (.ireturn, 1) := by decide +kernel
set_option maxRecDepth 200000 in
theorem ggL_step_X6_step : GoodIn wsL_step wsX6_step := goodIn_ca (goodIn_ca (goodIn_ca (goodIn_r _ [8, 9, 10, 11, 12, 13, 14, 15, 7, 16, 17, 18, 19, 20, 21, 22, 23, 24, 25, 26, 27, 28, 29, 30, 31, 32, 33, 34, 35, 36, 37, 38, 39, 40, 41, 42, 43, 44, 45, 46, 47, 48, 49, 50, 51, 52, 53, 54, 55, 56, 57, 58, 59, 60, 61, 62, 63, 64, 65, 66, 67, 68, 69, 70, 71, 72, 73, 74, 75, 76, 77, 78, 79, 80, 81, 82, 83, 84, 85, 86, 87, 88, 89, 90, 91, 92, 93, 94, 95, 96, 97, 98, 99, 100, 101, 102, 103, 104, 105, 106, 107, 108, 109, 110, 111, 112, 113, 114, 115, 116, 117, 118, 119, 120, 121, 122, 123, 124, 125, 126, 127] rfl (by decide +kernel)) (goodIn_sub (fun _ h => List.mem_cons_of_mem _ (List.mem_append_left _ (List.mem_append_left _ (List.mem_append_right _ h)))) (by decide +kernel))) (goodIn_sub (fun _ h => List.mem_cons_of_mem _ (List.mem_append_left _ (List.mem_append_right _ h))) (by decide +kernel))) (goodIn_sub (fun _ h => List.mem_cons_of_mem _ (List.mem_append_right _ h)) (by decide +kernel))
set_option maxRecDepth 200000 in
theorem gL_step_X6_step : GoodIn wsL_step (wsV RL 19 RX6 yX6_step wsX6_step) := goodIn_app (goodIn_of _ (by decide +kernel)) ggL_step_X6_step
theorem dL_step_0 : decode cL_step 0 = .ok (.aload_n 3, 1) := by decide +kernel
theorem dL_step_1 : decode cL_step 1 = .ok (.iconst 0, 1) := by decide +kernel
theorem dL_step_2 : decode cL_step 2 = .ok (.aload_n 0, 1) := by decide +kernel
theorem dL_step_3 : decode cL_step 3 = .ok (.iload_n 1, 1) := by decide +kernel
theorem dL_step_4 : decode cL_step 4 = .ok (.iload_n 2, 1) := by decide +kernel
theorem dL_step_5 : decode cL_step 5 = .ok (.invokevirtual 19, 3) := by decide +kernel
theorem dL_step_8 : decode cL_step 8 = .ok (.ifCond .eq 7, 3) := by decide +kernel
theorem dL_step_11 : decode cL_step 11 = .ok (.lconst 1, 1) := by decide +kernel
theorem dL_step_12 : decode cL_step 12 = .ok (.goto 4, 3) := by decide +kernel
theorem dL_step_15 : decode cL_step 15 = .ok (.lconst 0, 1) := by decide +kernel
theorem dL_step_16 : decode cL_step 16 = .ok (.lastore, 1) := by decide +kernel
theorem dL_step_17 : decode cL_step 17 = .ok (.goto 15, 3) := by decide +kernel
theorem dL_step_20 : decode cL_step 20 = .ok (.astore 4, 2) := by decide +kernel
theorem dL_step_22 : decode cL_step 22 = .ok (.iconst 1, 1) := by decide +kernel
theorem dL_step_23 : decode cL_step 23 = .ok (.ireturn, 1) := by decide +kernel
theorem dL_step_24 : decode cL_step 24 = .ok (.astore 4, 2) := by decide +kernel
theorem dL_step_26 : decode cL_step 26 = .ok (.iconst 2, 1) := by decide +kernel
theorem dL_step_27 : decode cL_step 27 = .ok (.ireturn, 1) := by decide +kernel
theorem dL_step_28 : decode cL_step 28 = .ok (.astore 4, 2) := by decide +kernel
theorem dL_step_30 : decode cL_step 30 = .ok (.iconst 3, 1) := by decide +kernel
theorem dL_step_31 : decode cL_step 31 = .ok (.ireturn, 1) := by decide +kernel
theorem dL_step_32 : decode cL_step 32 = .ok (.iconst 0, 1) := by decide +kernel
theorem dL_step_33 : decode cL_step 33 = .ok (.ireturn, 1) := by decide +kernel
set_option maxRecDepth 200000 in
theorem ggL_wipe_X6_wipe : GoodIn wsL_wipe wsX6_wipe := goodIn_ca (goodIn_r _ [6, 7, 8, 9, 10, 11, 5, 12, 13, 14, 15, 16, 17, 18, 19, 20, 21, 22, 23, 24, 25, 26, 27, 28, 29, 30, 31, 32, 33, 34, 35, 36, 37, 38, 39, 40, 41, 42, 43, 44, 45, 46, 47, 48, 49, 50, 51, 52, 53, 54, 55, 56, 57, 58, 59, 60, 61, 62, 63, 64, 65, 66, 67, 68, 69, 70, 71, 72, 73, 74, 75, 76] rfl (by decide +kernel)) (goodIn_sub (fun _ h => List.mem_cons_of_mem _ (List.mem_append_right _ h)) (by decide +kernel))
set_option maxRecDepth 200000 in
theorem gL_wipe_X6_wipe : GoodIn wsL_wipe (wsV RL 23 RX6 yX6_wipe wsX6_wipe) := goodIn_app (goodIn_of _ (by decide +kernel)) ggL_wipe_X6_wipe
theorem dL_wipe_0 : decode cL_wipe 0 = .ok (.aload_n 2, 1) := by decide +kernel
theorem dL_wipe_1 : decode cL_wipe 1 = .ok (.iconst 0, 1) := by decide +kernel
theorem dL_wipe_2 : decode cL_wipe 2 = .ok (.aload_n 0, 1) := by decide +kernel
theorem dL_wipe_3 : decode cL_wipe 3 = .ok (.iload_n 1, 1) := by decide +kernel
theorem dL_wipe_4 : decode cL_wipe 4 = .ok (.invokevirtual 23, 3) := by decide +kernel
theorem dL_wipe_7 : decode cL_wipe 7 = .ok (.i2l, 1) := by decide +kernel
theorem dL_wipe_8 : decode cL_wipe 8 = .ok (.lastore, 1) := by decide +kernel
theorem dL_wipe_9 : decode cL_wipe 9 = .ok (.goto 6, 3) := by decide +kernel
theorem dL_wipe_12 : decode cL_wipe 12 = .ok (.astore_n 3, 1) := by decide +kernel
theorem dL_wipe_13 : decode cL_wipe 13 = .ok (.iconst 1, 1) := by decide +kernel
theorem dL_wipe_14 : decode cL_wipe 14 = .ok (.ireturn, 1) := by decide +kernel
theorem dL_wipe_15 : decode cL_wipe 15 = .ok (.iconst 0, 1) := by decide +kernel
theorem dL_wipe_16 : decode cL_wipe 16 = .ok (.ireturn, 1) := by decide +kernel
set_option maxRecDepth 200000 in
theorem ggL_setLevel_X6_setLevel : GoodIn wsL_setLevel wsX6_setLevel := goodIn_ca (goodIn_ca (goodIn_r _ [7, 8, 9, 10, 11, 12, 6, 13, 14, 15, 16, 17, 18, 19, 20, 21, 22, 23, 24, 25, 26, 27, 28, 29, 30, 31, 32, 33, 34, 35, 36, 37, 38, 39, 40, 41, 42, 43, 44, 45, 46, 47, 48, 49, 50, 51, 52, 53, 54, 55, 56, 57, 58, 59, 60, 61, 62, 63, 64, 65, 66, 67, 68, 69, 70, 71, 72, 73, 74, 75, 76, 77, 78, 79, 80, 81] rfl (by decide +kernel)) (goodIn_sub (fun _ h => List.mem_cons_of_mem _ (List.mem_append_left _ (List.mem_append_right _ h))) (by decide +kernel))) (goodIn_sub (fun _ h => List.mem_cons_of_mem _ (List.mem_append_right _ h)) (by decide +kernel))
set_option maxRecDepth 200000 in
theorem gL_setLevel_X6_setLevel : GoodIn wsL_setLevel (wsV RL 27 RX6 yX6_setLevel wsX6_setLevel) := goodIn_app (goodIn_of _ (by decide +kernel)) ggL_setLevel_X6_setLevel
theorem dL_setLevel_0 : decode cL_setLevel 0 = .ok (.aload_n 3, 1) := by decide +kernel
theorem dL_setLevel_1 : decode cL_setLevel 1 = .ok (.iconst 0, 1) := by decide +kernel
theorem dL_setLevel_2 : decode cL_setLevel 2 = .ok (.aload_n 0, 1) := by decide +kernel
theorem dL_setLevel_3 : decode cL_setLevel 3 = .ok (.iload_n 1, 1) := by decide +kernel
theorem dL_setLevel_4 : decode cL_setLevel 4 = .ok (.iload_n 2, 1) := by decide +kernel
theorem dL_setLevel_5 : decode cL_setLevel 5 = .ok (.invokevirtual 27, 3) := by decide +kernel
theorem dL_setLevel_8 : decode cL_setLevel 8 = .ok (.i2l, 1) := by decide +kernel
theorem dL_setLevel_9 : decode cL_setLevel 9 = .ok (.lastore, 1) := by decide +kernel
theorem dL_setLevel_10 : decode cL_setLevel 10 = .ok (.goto 11, 3) := by decide +kernel
theorem dL_setLevel_13 : decode cL_setLevel 13 = .ok (.astore 4, 2) := by decide +kernel
theorem dL_setLevel_15 : decode cL_setLevel 15 = .ok (.iconst 1, 1) := by decide +kernel
theorem dL_setLevel_16 : decode cL_setLevel 16 = .ok (.ireturn, 1) := by decide +kernel
theorem dL_setLevel_17 : decode cL_setLevel 17 = .ok (.astore 4, 2) := by decide +kernel
theorem dL_setLevel_19 : decode cL_setLevel 19 = .ok (.iconst 2, 1) := by decide +kernel
theorem dL_setLevel_20 : decode cL_setLevel 20 = .ok (.ireturn, 1) := by decide +kernel
theorem dL_setLevel_21 : decode cL_setLevel 21 = .ok (.iconst 0, 1) := by decide +kernel
theorem dL_setLevel_22 : decode cL_setLevel 22 = .ok (.ireturn, 1) := by decide +kernel
set_option maxRecDepth 200000 in
theorem ggL_label_X6_label : GoodIn wsL_label wsX6_label := goodIn_ca (goodIn_ca (goodIn_r _ [7, 8, 9, 10, 11, 12, 13, 14, 6, 15, 16, 17, 18, 19, 20, 21, 22, 23, 24, 25, 26, 27, 28, 29, 30, 31, 32, 33, 34, 35, 36, 37, 38, 39, 40, 41, 42, 43, 44, 45, 46, 47, 48, 49, 50, 51, 52, 53, 54, 55, 56, 57, 58, 59, 60, 61, 62, 63, 64, 65, 66, 67, 68, 69, 70, 71, 72, 73, 74, 75, 76, 77, 78, 79, 80, 81, 82, 83, 84, 85, 86, 87, 88, 89, 90, 91, 92, 93, 94, 95, 96, 97, 98, 99, 100, 101, 102, 103, 104, 105, 106, 107, 108, 109, 110, 111, 112, 113, 114, 115, 116, 117, 118, 119, 120, 121, 122, 123, 124, 125, 126, 127, 128, 129, 130, 131, 132, 133, 134, 135, 136, 137, 138, 139, 140, 141, 142, 143, 144, 145, 146, 147, 148, 149, 150, 151, 152, 153, 154, 155, 156] rfl (by decide +kernel)) (goodIn_sub (fun _ h => List.mem_cons_of_mem _ (List.mem_append_left _ (List.mem_append_right _ h))) (by decide +kernel))) (goodIn_sub (fun _ h => List.mem_cons_of_mem _ (List.mem_append_right _ h)) (by decide +kernel))
set_option maxRecDepth 200000 in
theorem gL_label_X6_label : GoodIn wsL_label (wsV RL 30 RX6 yX6_label wsX6_label) := goodIn_app (goodIn_of _ (by decide +kernel)) ggL_label_X6_label
theorem dL_label_0 : decode cL_label 0 = .ok (.aload_n 3, 1) := by decide +kernel
theorem dL_label_1 : decode cL_label 1 = .ok (.iconst 0, 1) := by decide +kernel
theorem dL_label_2 : decode cL_label 2 = .ok (.aload_n 0, 1) := by decide +kernel
theorem dL_label_3 : decode cL_label 3 = .ok (.iload_n 1, 1) := by decide +kernel
theorem dL_label_4 : decode cL_label 4 = .ok (.iload_n 2, 1) := by decide +kernel
theorem dL_label_5 : decode cL_label 5 = .ok (.invokevirtual 30, 3) := by decide +kernel
theorem dL_label_8 : decode cL_label 8 = .ok (.i2l, 1) := by decide +kernel
theorem dL_label_9 : decode cL_label 9 = .ok (.lastore, 1) := by decide +kernel
theorem dL_label_10 : decode cL_label 10 = .ok (.goto 11, 3) := by decide +kernel
theorem dL_label_13 : decode cL_label 13 = .ok (.astore 4, 2) := by decide +kernel
theorem dL_label_15 : decode cL_label 15 = .ok (.iconst 1, 1) := by decide +kernel
theorem dL_label_16 : decode cL_label 16 = .ok (.ireturn, 1) := by decide +kernel
theorem dL_label_17 : decode cL_label 17 = .ok (.astore 4, 2) := by decide +kernel
theorem dL_label_19 : decode cL_label 19 = .ok (.iconst 2, 1) := by decide +kernel
theorem dL_label_20 : decode cL_label 20 = .ok (.ireturn, 1) := by decide +kernel
theorem dL_label_21 : decode cL_label 21 = .ok (.iconst 0, 1) := by decide +kernel
theorem dL_label_22 : decode cL_label 22 = .ok (.ireturn, 1) := by decide +kernel
set_option maxRecDepth 200000 in
theorem ggL_unlabel_X6_unlabel : GoodIn wsL_unlabel wsX6_unlabel := goodIn_ca (goodIn_ca (goodIn_r _ [7, 8, 9, 10, 11, 12, 13, 14, 6, 15, 16, 17, 18, 19, 20, 21, 22, 23, 24, 25, 26, 27, 28, 29, 30, 31, 32, 33, 34, 35, 36, 37, 38, 39, 40, 41, 42, 43, 44, 45, 46, 47, 48, 49, 50, 51, 52, 53, 54, 55, 56, 57, 58, 59, 60, 61, 62, 63, 64, 65, 66, 67, 68, 69, 70, 71, 72, 73, 74] rfl (by decide +kernel)) (goodIn_sub (fun _ h => List.mem_cons_of_mem _ (List.mem_append_left _ (List.mem_append_right _ h))) (by decide +kernel))) (goodIn_sub (fun _ h => List.mem_cons_of_mem _ (List.mem_append_right _ h)) (by decide +kernel))
set_option maxRecDepth 200000 in
theorem gL_unlabel_X6_unlabel : GoodIn wsL_unlabel (wsV RL 33 RX6 yX6_unlabel wsX6_unlabel) := goodIn_app (goodIn_of _ (by decide +kernel)) ggL_unlabel_X6_unlabel
theorem dL_unlabel_0 : decode cL_unlabel 0 = .ok (.aload_n 2, 1) := by decide +kernel
theorem dL_unlabel_1 : decode cL_unlabel 1 = .ok (.iconst 0, 1) := by decide +kernel
theorem dL_unlabel_2 : decode cL_unlabel 2 = .ok (.aload_n 0, 1) := by decide +kernel
theorem dL_unlabel_3 : decode cL_unlabel 3 = .ok (.iload_n 1, 1) := by decide +kernel
theorem dL_unlabel_4 : decode cL_unlabel 4 = .ok (.invokevirtual 33, 3) := by decide +kernel
theorem dL_unlabel_7 : decode cL_unlabel 7 = .ok (.i2l, 1) := by decide +kernel
theorem dL_unlabel_8 : decode cL_unlabel 8 = .ok (.lastore, 1) := by decide +kernel
theorem dL_unlabel_9 : decode cL_unlabel 9 = .ok (.goto 9, 3) := by decide +kernel
theorem dL_unlabel_12 : decode cL_unlabel 12 = .ok (.astore_n 3, 1) := by decide +kernel
theorem dL_unlabel_13 : decode cL_unlabel 13 = .ok (.iconst 1, 1) := by decide +kernel
theorem dL_unlabel_14 : decode cL_unlabel 14 = .ok (.ireturn, 1) := by decide +kernel
theorem dL_unlabel_15 : decode cL_unlabel 15 = .ok (.astore_n 3, 1) := by decide +kernel
theorem dL_unlabel_16 : decode cL_unlabel 16 = .ok (.iconst 2, 1) := by decide +kernel
theorem dL_unlabel_17 : decode cL_unlabel 17 = .ok (.ireturn, 1) := by decide +kernel
theorem dL_unlabel_18 : decode cL_unlabel 18 = .ok (.iconst 0, 1) := by decide +kernel
theorem dL_unlabel_19 : decode cL_unlabel 19 = .ok (.ireturn, 1) := by decide +kernel
set_option maxRecDepth 200000 in
theorem ggL_labelBest_X6_labelBest : GoodIn wsL_labelBest wsX6_labelBest := goodIn_ca (goodIn_ca (goodIn_r _ [7, 8, 9, 10, 11, 12, 13, 14, 6, 15, 16, 17, 18, 19, 20, 21, 22, 23, 24, 25, 26, 27, 28, 29, 30, 31, 32, 33, 34, 35, 36, 37, 38, 39, 40, 41, 42, 43, 44, 45, 46, 47, 48, 49, 50, 51, 52, 53, 54, 55, 56, 57, 58, 59, 60, 61, 62, 63, 64, 65, 66, 67, 68, 69, 70, 71, 72, 73, 74, 75, 76, 77, 78, 79, 80, 81, 82, 83, 84, 85, 86, 87, 88, 89, 90, 91, 92, 93, 94, 95, 96, 97, 98, 99, 100, 101, 102, 103, 104, 105, 106, 107, 108, 109, 110, 111, 112, 113, 114, 115, 116, 117, 118, 119, 120, 121, 122, 123, 124, 125, 126, 127, 128, 129, 130, 131, 132, 133, 134, 135, 136, 137, 138, 139, 140, 141, 142, 143, 144, 145, 146, 147, 148, 149, 150, 151, 152, 153, 154, 155, 156, 157, 158] rfl (by decide +kernel)) (goodIn_sub (fun _ h => List.mem_cons_of_mem _ (List.mem_append_left _ (List.mem_append_right _ h))) (by decide +kernel))) (goodIn_sub (fun _ h => List.mem_cons_of_mem _ (List.mem_append_right _ h)) (by decide +kernel))
set_option maxRecDepth 200000 in
theorem gL_labelBest_X6_labelBest : GoodIn wsL_labelBest (wsV RL 36 RX6 yX6_labelBest wsX6_labelBest) := goodIn_app (goodIn_of _ (by decide +kernel)) ggL_labelBest_X6_labelBest
theorem dL_labelBest_0 : decode cL_labelBest 0 = .ok (.aload_n 2, 1) := by decide +kernel
theorem dL_labelBest_1 : decode cL_labelBest 1 = .ok (.iconst 0, 1) := by decide +kernel
theorem dL_labelBest_2 : decode cL_labelBest 2 = .ok (.aload_n 0, 1) := by decide +kernel
theorem dL_labelBest_3 : decode cL_labelBest 3 = .ok (.iload_n 1, 1) := by decide +kernel
theorem dL_labelBest_4 : decode cL_labelBest 4 = .ok (.invokevirtual 36, 3) := by decide +kernel
theorem dL_labelBest_7 : decode cL_labelBest 7 = .ok (.i2l, 1) := by decide +kernel
theorem dL_labelBest_8 : decode cL_labelBest 8 = .ok (.lastore, 1) := by decide +kernel
theorem dL_labelBest_9 : decode cL_labelBest 9 = .ok (.goto 9, 3) := by decide +kernel
theorem dL_labelBest_12 : decode cL_labelBest 12 = .ok (.astore_n 3, 1) := by decide +kernel
theorem dL_labelBest_13 : decode cL_labelBest 13 = .ok (.iconst 1, 1) := by decide +kernel
theorem dL_labelBest_14 : decode cL_labelBest 14 = .ok (.ireturn, 1) := by decide +kernel
theorem dL_labelBest_15 : decode cL_labelBest 15 = .ok (.astore_n 3, 1) := by decide +kernel
theorem dL_labelBest_16 : decode cL_labelBest 16 = .ok (.iconst 2, 1) := by decide +kernel
theorem dL_labelBest_17 : decode cL_labelBest 17 = .ok (.ireturn, 1) := by decide +kernel
theorem dL_labelBest_18 : decode cL_labelBest 18 = .ok (.iconst 0, 1) := by decide +kernel
theorem dL_labelBest_19 : decode cL_labelBest 19 = .ok (.ireturn, 1) := by decide +kernel
set_option maxRecDepth 200000 in
theorem ggL_setGap_X6_setGap : GoodIn wsL_setGap wsX6_setGap := goodIn_ca (goodIn_r _ [6, 7, 8, 9, 10, 11, 12, 13, 14, 15, 16, 17, 18, 19, 20, 21, 22, 23, 24, 25, 26, 27, 28, 29, 30, 31, 32, 33, 34, 35, 36, 37, 38, 39, 40, 41, 42, 43, 44, 45, 46, 47, 48, 49, 50, 51, 52, 53, 54, 55, 56, 57, 58, 59, 60, 61, 62, 63] rfl (by decide +kernel)) (goodIn_sub (fun _ h => List.mem_cons_of_mem _ (List.mem_append_right _ h)) (by decide +kernel))
set_option maxRecDepth 200000 in
theorem gL_setGap_X6_setGap : GoodIn wsL_setGap (wsV RL 39 RX6 yX6_setGap wsX6_setGap) := goodIn_app (goodIn_of _ (by decide +kernel)) ggL_setGap_X6_setGap
theorem dL_setGap_0 : decode cL_setGap 0 = .ok (.aload_n 2, 1) := by decide +kernel
theorem dL_setGap_1 : decode cL_setGap 1 = .ok (.iconst 0, 1) := by decide +kernel
theorem dL_setGap_2 : decode cL_setGap 2 = .ok (.aload_n 0, 1) := by decide +kernel
theorem dL_setGap_3 : decode cL_setGap 3 = .ok (.iload_n 1, 1) := by decide +kernel
theorem dL_setGap_4 : decode cL_setGap 4 = .ok (.invokevirtual 39, 3) := by decide +kernel
theorem dL_setGap_7 : decode cL_setGap 7 = .ok (.i2l, 1) := by decide +kernel
theorem dL_setGap_8 : decode cL_setGap 8 = .ok (.lastore, 1) := by decide +kernel
theorem dL_setGap_9 : decode cL_setGap 9 = .ok (.goto 6, 3) := by decide +kernel
theorem dL_setGap_12 : decode cL_setGap 12 = .ok (.astore_n 3, 1) := by decide +kernel
theorem dL_setGap_13 : decode cL_setGap 13 = .ok (.iconst 1, 1) := by decide +kernel
theorem dL_setGap_14 : decode cL_setGap 14 = .ok (.ireturn, 1) := by decide +kernel
theorem dL_setGap_15 : decode cL_setGap 15 = .ok (.iconst 0, 1) := by decide +kernel
theorem dL_setGap_16 : decode cL_setGap 16 = .ok (.ireturn, 1) := by decide +kernel
set_option maxRecDepth 200000 in
theorem ggL_levelOf_X6_levelOf : GoodIn wsL_levelOf wsX6_levelOf := goodIn_ca (goodIn_r _ [6, 7, 8, 9, 10, 5, 11, 12, 13, 14, 15, 16, 17, 18, 19, 20, 21, 22, 23, 24, 25, 26, 27, 28, 29, 30, 31, 32, 33, 34] rfl (by decide +kernel)) (goodIn_sub (fun _ h => List.mem_cons_of_mem _ (List.mem_append_right _ h)) (by decide +kernel))
set_option maxRecDepth 200000 in
theorem gL_levelOf_X6_levelOf : GoodIn wsL_levelOf (wsV RL 42 RX6 yX6_levelOf wsX6_levelOf) := goodIn_app (goodIn_of _ (by decide +kernel)) ggL_levelOf_X6_levelOf
theorem dL_levelOf_0 : decode cL_levelOf 0 = .ok (.aload_n 2, 1) := by decide +kernel
theorem dL_levelOf_1 : decode cL_levelOf 1 = .ok (.iconst 0, 1) := by decide +kernel
theorem dL_levelOf_2 : decode cL_levelOf 2 = .ok (.aload_n 0, 1) := by decide +kernel
theorem dL_levelOf_3 : decode cL_levelOf 3 = .ok (.iload_n 1, 1) := by decide +kernel
theorem dL_levelOf_4 : decode cL_levelOf 4 = .ok (.invokevirtual 42, 3) := by decide +kernel
theorem dL_levelOf_7 : decode cL_levelOf 7 = .ok (.i2l, 1) := by decide +kernel
theorem dL_levelOf_8 : decode cL_levelOf 8 = .ok (.lastore, 1) := by decide +kernel
theorem dL_levelOf_9 : decode cL_levelOf 9 = .ok (.goto 6, 3) := by decide +kernel
theorem dL_levelOf_12 : decode cL_levelOf 12 = .ok (.astore_n 3, 1) := by decide +kernel
theorem dL_levelOf_13 : decode cL_levelOf 13 = .ok (.iconst 1, 1) := by decide +kernel
theorem dL_levelOf_14 : decode cL_levelOf 14 = .ok (.ireturn, 1) := by decide +kernel
theorem dL_levelOf_15 : decode cL_levelOf 15 = .ok (.iconst 0, 1) := by decide +kernel
theorem dL_levelOf_16 : decode cL_levelOf 16 = .ok (.ireturn, 1) := by decide +kernel
set_option maxRecDepth 200000 in
theorem ggL_stepsOf_X6_stepsOf : GoodIn wsL_stepsOf wsX6_stepsOf := goodIn_ca (goodIn_r _ [6, 7, 8, 9, 10, 5, 11, 12, 13, 14, 15, 16, 17, 18, 19, 20, 21, 22, 23, 24, 25, 26, 27, 28, 29, 30, 31, 32, 33, 34] rfl (by decide +kernel)) (goodIn_sub (fun _ h => List.mem_cons_of_mem _ (List.mem_append_right _ h)) (by decide +kernel))
set_option maxRecDepth 200000 in
theorem gL_stepsOf_X6_stepsOf : GoodIn wsL_stepsOf (wsV RL 45 RX6 yX6_stepsOf wsX6_stepsOf) := goodIn_app (goodIn_of _ (by decide +kernel)) ggL_stepsOf_X6_stepsOf
theorem dL_stepsOf_0 : decode cL_stepsOf 0 = .ok (.aload_n 2, 1) := by decide +kernel
theorem dL_stepsOf_1 : decode cL_stepsOf 1 = .ok (.iconst 0, 1) := by decide +kernel
theorem dL_stepsOf_2 : decode cL_stepsOf 2 = .ok (.aload_n 0, 1) := by decide +kernel
theorem dL_stepsOf_3 : decode cL_stepsOf 3 = .ok (.iload_n 1, 1) := by decide +kernel
theorem dL_stepsOf_4 : decode cL_stepsOf 4 = .ok (.invokevirtual 45, 3) := by decide +kernel
theorem dL_stepsOf_7 : decode cL_stepsOf 7 = .ok (.i2l, 1) := by decide +kernel
theorem dL_stepsOf_8 : decode cL_stepsOf 8 = .ok (.lastore, 1) := by decide +kernel
theorem dL_stepsOf_9 : decode cL_stepsOf 9 = .ok (.goto 6, 3) := by decide +kernel
theorem dL_stepsOf_12 : decode cL_stepsOf 12 = .ok (.astore_n 3, 1) := by decide +kernel
theorem dL_stepsOf_13 : decode cL_stepsOf 13 = .ok (.iconst 1, 1) := by decide +kernel
theorem dL_stepsOf_14 : decode cL_stepsOf 14 = .ok (.ireturn, 1) := by decide +kernel
theorem dL_stepsOf_15 : decode cL_stepsOf 15 = .ok (.iconst 0, 1) := by decide +kernel
theorem dL_stepsOf_16 : decode cL_stepsOf 16 = .ok (.ireturn, 1) := by decide +kernel
set_option maxRecDepth 200000 in
theorem ggL_pointOf_X6_pointOf : GoodIn wsL_pointOf wsX6_pointOf := goodIn_ca (goodIn_r _ [6, 7, 8, 9, 10, 5, 11, 12, 13, 14, 15, 16, 17, 18, 19, 20, 21, 22, 23, 24, 25, 26, 27, 28, 29, 30, 31, 32, 33, 34, 35] rfl (by decide +kernel)) (goodIn_sub (fun _ h => List.mem_cons_of_mem _ (List.mem_append_right _ h)) (by decide +kernel))
set_option maxRecDepth 200000 in
theorem gL_pointOf_X6_pointOf : GoodIn wsL_pointOf (wsV RL 48 RX6 yX6_pointOf wsX6_pointOf) := goodIn_app (goodIn_of _ (by decide +kernel)) ggL_pointOf_X6_pointOf
theorem dL_pointOf_0 : decode cL_pointOf 0 = .ok (.aload_n 3, 1) := by decide +kernel
theorem dL_pointOf_1 : decode cL_pointOf 1 = .ok (.iconst 0, 1) := by decide +kernel
theorem dL_pointOf_2 : decode cL_pointOf 2 = .ok (.aload_n 0, 1) := by decide +kernel
theorem dL_pointOf_3 : decode cL_pointOf 3 = .ok (.iload_n 1, 1) := by decide +kernel
theorem dL_pointOf_4 : decode cL_pointOf 4 = .ok (.iload_n 2, 1) := by decide +kernel
theorem dL_pointOf_5 : decode cL_pointOf 5 = .ok (.invokevirtual 48, 3) := by decide +kernel
theorem dL_pointOf_8 : decode cL_pointOf 8 = .ok (.i2l, 1) := by decide +kernel
theorem dL_pointOf_9 : decode cL_pointOf 9 = .ok (.lastore, 1) := by decide +kernel
theorem dL_pointOf_10 : decode cL_pointOf 10 = .ok (.goto 7, 3) := by decide +kernel
theorem dL_pointOf_13 : decode cL_pointOf 13 = .ok (.astore 4, 2) := by decide +kernel
theorem dL_pointOf_15 : decode cL_pointOf 15 = .ok (.iconst 1, 1) := by decide +kernel
theorem dL_pointOf_16 : decode cL_pointOf 16 = .ok (.ireturn, 1) := by decide +kernel
theorem dL_pointOf_17 : decode cL_pointOf 17 = .ok (.iconst 0, 1) := by decide +kernel
theorem dL_pointOf_18 : decode cL_pointOf 18 = .ok (.ireturn, 1) := by decide +kernel
set_option maxRecDepth 200000 in
theorem ggL_lineAt_X6_lineAt : GoodIn wsL_lineAt wsX6_lineAt := goodIn_ca (goodIn_r _ [6, 7, 8, 9, 5, 10, 11, 12, 13, 14, 15, 16, 17, 18, 19, 20, 21, 22, 23, 24, 25, 26, 27, 28, 29, 30, 31, 32, 33, 34, 35, 36, 37, 38, 39, 40, 41, 42, 43, 44, 45] rfl (by decide +kernel)) (goodIn_sub (fun _ h => List.mem_cons_of_mem _ (List.mem_append_right _ h)) (by decide +kernel))
set_option maxRecDepth 200000 in
theorem gL_lineAt_X6_lineAt : GoodIn wsL_lineAt (wsV RL 51 RX6 yX6_lineAt wsX6_lineAt) := goodIn_app (goodIn_of _ (by decide +kernel)) ggL_lineAt_X6_lineAt
theorem dL_lineAt_0 : decode cL_lineAt 0 = .ok (.aload_n 2, 1) := by decide +kernel
theorem dL_lineAt_1 : decode cL_lineAt 1 = .ok (.iconst 0, 1) := by decide +kernel
theorem dL_lineAt_2 : decode cL_lineAt 2 = .ok (.aload_n 0, 1) := by decide +kernel
theorem dL_lineAt_3 : decode cL_lineAt 3 = .ok (.iload_n 1, 1) := by decide +kernel
theorem dL_lineAt_4 : decode cL_lineAt 4 = .ok (.invokevirtual 51, 3) := by decide +kernel
theorem dL_lineAt_7 : decode cL_lineAt 7 = .ok (.i2l, 1) := by decide +kernel
theorem dL_lineAt_8 : decode cL_lineAt 8 = .ok (.lastore, 1) := by decide +kernel
theorem dL_lineAt_9 : decode cL_lineAt 9 = .ok (.goto 6, 3) := by decide +kernel
theorem dL_lineAt_12 : decode cL_lineAt 12 = .ok (.astore_n 3, 1) := by decide +kernel
theorem dL_lineAt_13 : decode cL_lineAt 13 = .ok (.iconst 1, 1) := by decide +kernel
theorem dL_lineAt_14 : decode cL_lineAt 14 = .ok (.ireturn, 1) := by decide +kernel
theorem dL_lineAt_15 : decode cL_lineAt 15 = .ok (.iconst 0, 1) := by decide +kernel
theorem dL_lineAt_16 : decode cL_lineAt 16 = .ok (.ireturn, 1) := by decide +kernel
set_option maxRecDepth 200000 in
theorem ggL_isClosed_X6_isClosed : GoodIn wsL_isClosed wsX6_isClosed := goodIn_ca (goodIn_r _ [6, 7, 8, 9, 10, 5, 11, 12, 13, 14, 15, 16, 17, 18, 19, 20, 21, 22, 23, 24, 25, 26, 27, 28, 29, 30, 31, 32, 33, 34, 35] rfl (by decide +kernel)) (goodIn_sub (fun _ h => List.mem_cons_of_mem _ (List.mem_append_right _ h)) (by decide +kernel))
set_option maxRecDepth 200000 in
theorem gL_isClosed_X6_isClosed : GoodIn wsL_isClosed (wsV RL 54 RX6 yX6_isClosed wsX6_isClosed) := goodIn_app (goodIn_of _ (by decide +kernel)) ggL_isClosed_X6_isClosed
theorem dL_isClosed_0 : decode cL_isClosed 0 = .ok (.aload_n 2, 1) := by decide +kernel
theorem dL_isClosed_1 : decode cL_isClosed 1 = .ok (.iconst 0, 1) := by decide +kernel
theorem dL_isClosed_2 : decode cL_isClosed 2 = .ok (.aload_n 0, 1) := by decide +kernel
theorem dL_isClosed_3 : decode cL_isClosed 3 = .ok (.iload_n 1, 1) := by decide +kernel
theorem dL_isClosed_4 : decode cL_isClosed 4 = .ok (.invokevirtual 54, 3) := by decide +kernel
theorem dL_isClosed_7 : decode cL_isClosed 7 = .ok (.ifCond .eq 7, 3) := by decide +kernel
theorem dL_isClosed_10 : decode cL_isClosed 10 = .ok (.lconst 1, 1) := by decide +kernel
theorem dL_isClosed_11 : decode cL_isClosed 11 = .ok (.goto 4, 3) := by decide +kernel
theorem dL_isClosed_14 : decode cL_isClosed 14 = .ok (.lconst 0, 1) := by decide +kernel
theorem dL_isClosed_15 : decode cL_isClosed 15 = .ok (.lastore, 1) := by decide +kernel
theorem dL_isClosed_16 : decode cL_isClosed 16 = .ok (.goto 6, 3) := by decide +kernel
theorem dL_isClosed_19 : decode cL_isClosed 19 = .ok (.astore_n 3, 1) := by decide +kernel
theorem dL_isClosed_20 : decode cL_isClosed 20 = .ok (.iconst 1, 1) := by decide +kernel
theorem dL_isClosed_21 : decode cL_isClosed 21 = .ok (.ireturn, 1) := by decide +kernel
theorem dL_isClosed_22 : decode cL_isClosed 22 = .ok (.iconst 0, 1) := by decide +kernel
theorem dL_isClosed_23 : decode cL_isClosed 23 = .ok (.ireturn, 1) := by decide +kernel
set_option maxRecDepth 200000 in
theorem ggL_whyNotStepped_X6_whyNotStepped : GoodIn wsL_whyNotStepped wsX6_whyNotStepped := goodIn_ca (goodIn_ca (goodIn_r _ [7, 8, 9, 10, 11, 6, 12, 13, 14, 15, 16, 17, 18, 19, 20, 21, 22, 23, 24, 25, 26, 27, 28, 29, 30, 31, 32, 33, 34, 35, 36, 37, 38, 39, 40, 41, 42, 43, 44, 45, 46, 47, 48, 49, 50, 51, 52, 53, 54, 55, 56, 57, 58, 59, 60, 61, 62, 63, 64, 65, 66, 67, 68, 69, 70, 71, 72, 73, 74, 75, 76, 77, 78, 79, 80, 81, 82, 83, 84, 85, 86, 87] rfl (by decide +kernel)) (goodIn_sub (fun _ h => List.mem_cons_of_mem _ (List.mem_append_left _ (List.mem_append_right _ h))) (by decide +kernel))) (goodIn_sub (fun _ h => List.mem_cons_of_mem _ (List.mem_append_right _ h)) (by decide +kernel))
set_option maxRecDepth 200000 in
theorem gL_whyNotStepped_X6_whyNotStepped : GoodIn wsL_whyNotStepped (wsV RL 58 RX6 yX6_whyNotStepped wsX6_whyNotStepped) := goodIn_app (goodIn_of _ (by decide +kernel)) ggL_whyNotStepped_X6_whyNotStepped
theorem dL_whyNotStepped_0 : decode cL_whyNotStepped 0 = .ok (.aload_n 3, 1) := by decide +kernel
theorem dL_whyNotStepped_1 : decode cL_whyNotStepped 1 = .ok (.iconst 0, 1) := by decide +kernel
theorem dL_whyNotStepped_2 : decode cL_whyNotStepped 2 = .ok (.aload_n 0, 1) := by decide +kernel
theorem dL_whyNotStepped_3 : decode cL_whyNotStepped 3 = .ok (.iload_n 1, 1) := by decide +kernel
theorem dL_whyNotStepped_4 : decode cL_whyNotStepped 4 = .ok (.iload_n 2, 1) := by decide +kernel
theorem dL_whyNotStepped_5 : decode cL_whyNotStepped 5 = .ok (.invokevirtual 58, 3) := by decide +kernel
theorem dL_whyNotStepped_8 : decode cL_whyNotStepped 8 = .ok (.i2l, 1) := by decide +kernel
theorem dL_whyNotStepped_9 : decode cL_whyNotStepped 9 = .ok (.lastore, 1) := by decide +kernel
theorem dL_whyNotStepped_10 : decode cL_whyNotStepped 10 = .ok (.goto 11, 3) := by decide +kernel
theorem dL_whyNotStepped_13 : decode cL_whyNotStepped 13 = .ok (.astore 4, 2) := by decide +kernel
theorem dL_whyNotStepped_15 : decode cL_whyNotStepped 15 = .ok (.iconst 1, 1) := by decide +kernel
theorem dL_whyNotStepped_16 : decode cL_whyNotStepped 16 = .ok (.ireturn, 1) := by decide +kernel
theorem dL_whyNotStepped_17 : decode cL_whyNotStepped 17 = .ok (.astore 4, 2) := by decide +kernel
theorem dL_whyNotStepped_19 : decode cL_whyNotStepped 19 = .ok (.iconst 2, 1) := by decide +kernel
theorem dL_whyNotStepped_20 : decode cL_whyNotStepped 20 = .ok (.ireturn, 1) := by decide +kernel
theorem dL_whyNotStepped_21 : decode cL_whyNotStepped 21 = .ok (.iconst 0, 1) := by decide +kernel
theorem dL_whyNotStepped_22 : decode cL_whyNotStepped 22 = .ok (.ireturn, 1) := by decide +kernel
set_option maxRecDepth 200000 in
theorem ggL_bendAt_X6_bendAt : GoodIn wsL_bendAt wsX6_bendAt := goodIn_ca (goodIn_r _ [6, 7, 8, 9, 10, 5, 11, 12, 13, 14, 15, 16, 17, 18, 19, 20, 21, 22, 23, 24, 25, 26, 27, 28, 29, 30, 31, 32, 33, 34, 35, 36, 37, 38, 39, 40, 41, 42, 43, 44, 45, 46, 47, 48, 49, 50, 51, 52, 53, 54] rfl (by decide +kernel)) (goodIn_sub (fun _ h => List.mem_cons_of_mem _ (List.mem_append_right _ h)) (by decide +kernel))
set_option maxRecDepth 200000 in
theorem gL_bendAt_X6_bendAt : GoodIn wsL_bendAt (wsV RL 61 RX6 yX6_bendAt wsX6_bendAt) := goodIn_app (goodIn_of _ (by decide +kernel)) ggL_bendAt_X6_bendAt
theorem dL_bendAt_0 : decode cL_bendAt 0 = .ok (.aload_n 3, 1) := by decide +kernel
theorem dL_bendAt_1 : decode cL_bendAt 1 = .ok (.iconst 0, 1) := by decide +kernel
theorem dL_bendAt_2 : decode cL_bendAt 2 = .ok (.aload_n 0, 1) := by decide +kernel
theorem dL_bendAt_3 : decode cL_bendAt 3 = .ok (.iload_n 1, 1) := by decide +kernel
theorem dL_bendAt_4 : decode cL_bendAt 4 = .ok (.iload_n 2, 1) := by decide +kernel
theorem dL_bendAt_5 : decode cL_bendAt 5 = .ok (.invokevirtual 61, 3) := by decide +kernel
theorem dL_bendAt_8 : decode cL_bendAt 8 = .ok (.i2l, 1) := by decide +kernel
theorem dL_bendAt_9 : decode cL_bendAt 9 = .ok (.lastore, 1) := by decide +kernel
theorem dL_bendAt_10 : decode cL_bendAt 10 = .ok (.goto 7, 3) := by decide +kernel
theorem dL_bendAt_13 : decode cL_bendAt 13 = .ok (.astore 4, 2) := by decide +kernel
theorem dL_bendAt_15 : decode cL_bendAt 15 = .ok (.iconst 1, 1) := by decide +kernel
theorem dL_bendAt_16 : decode cL_bendAt 16 = .ok (.ireturn, 1) := by decide +kernel
theorem dL_bendAt_17 : decode cL_bendAt 17 = .ok (.iconst 0, 1) := by decide +kernel
theorem dL_bendAt_18 : decode cL_bendAt 18 = .ok (.ireturn, 1) := by decide +kernel
set_option maxRecDepth 200000 in
theorem ggL_lengthByKinds_X6_lengthByKinds : GoodIn wsL_lengthByKinds wsX6_lengthByKinds := goodIn_ca (goodIn_r _ [6, 7, 8, 9, 10, 5, 11, 12, 13, 14, 15, 16, 17, 18, 19, 20, 21, 22, 23, 24, 25, 26, 27, 28, 29, 30, 31, 32, 33, 34, 35, 36, 37, 38, 39, 40, 41, 42, 43, 44, 45, 46] rfl (by decide +kernel)) (goodIn_sub (fun _ h => List.mem_cons_of_mem _ (List.mem_append_right _ h)) (by decide +kernel))
set_option maxRecDepth 200000 in
theorem gL_lengthByKinds_X6_lengthByKinds : GoodIn wsL_lengthByKinds (wsV RL 64 RX6 yX6_lengthByKinds wsX6_lengthByKinds) := goodIn_app (goodIn_of _ (by decide +kernel)) ggL_lengthByKinds_X6_lengthByKinds
theorem dL_lengthByKinds_0 : decode cL_lengthByKinds 0 = .ok (.aload_n 2, 1) := by decide +kernel
theorem dL_lengthByKinds_1 : decode cL_lengthByKinds 1 = .ok (.iconst 0, 1) := by decide +kernel
theorem dL_lengthByKinds_2 : decode cL_lengthByKinds 2 = .ok (.aload_n 0, 1) := by decide +kernel
theorem dL_lengthByKinds_3 : decode cL_lengthByKinds 3 = .ok (.iload_n 1, 1) := by decide +kernel
theorem dL_lengthByKinds_4 : decode cL_lengthByKinds 4 = .ok (.invokevirtual 64, 3) := by decide +kernel
theorem dL_lengthByKinds_7 : decode cL_lengthByKinds 7 = .ok (.dastore, 1) := by decide +kernel
theorem dL_lengthByKinds_8 : decode cL_lengthByKinds 8 = .ok (.goto 6, 3) := by decide +kernel
theorem dL_lengthByKinds_11 : decode cL_lengthByKinds 11 = .ok (.astore_n 3, 1) := by decide +kernel
theorem dL_lengthByKinds_12 : decode cL_lengthByKinds 12 = .ok (.iconst 1, 1) := by decide +kernel
theorem dL_lengthByKinds_13 : decode cL_lengthByKinds 13 = .ok (.ireturn, 1) := by decide +kernel
theorem dL_lengthByKinds_14 : decode cL_lengthByKinds 14 = .ok (.iconst 0, 1) := by decide +kernel
theorem dL_lengthByKinds_15 : decode cL_lengthByKinds 15 = .ok (.ireturn, 1) := by decide +kernel
set_option maxRecDepth 200000 in
theorem ggL_lengthBySteps_X6_lengthBySteps : GoodIn wsL_lengthBySteps wsX6_lengthBySteps := goodIn_ca (goodIn_r _ [6, 7, 8, 9, 10, 5, 11, 12, 13, 14, 15, 16, 17, 18, 19, 20, 21, 22, 23, 24, 25, 26, 27, 28, 29, 30, 31, 32, 33, 34, 35, 36, 37, 38, 39, 40, 41, 42, 43, 44, 45, 46] rfl (by decide +kernel)) (goodIn_sub (fun _ h => List.mem_cons_of_mem _ (List.mem_append_right _ h)) (by decide +kernel))
set_option maxRecDepth 200000 in
theorem gL_lengthBySteps_X6_lengthBySteps : GoodIn wsL_lengthBySteps (wsV RL 68 RX6 yX6_lengthBySteps wsX6_lengthBySteps) := goodIn_app (goodIn_of _ (by decide +kernel)) ggL_lengthBySteps_X6_lengthBySteps
theorem dL_lengthBySteps_0 : decode cL_lengthBySteps 0 = .ok (.aload_n 2, 1) := by decide +kernel
theorem dL_lengthBySteps_1 : decode cL_lengthBySteps 1 = .ok (.iconst 0, 1) := by decide +kernel
theorem dL_lengthBySteps_2 : decode cL_lengthBySteps 2 = .ok (.aload_n 0, 1) := by decide +kernel
theorem dL_lengthBySteps_3 : decode cL_lengthBySteps 3 = .ok (.iload_n 1, 1) := by decide +kernel
theorem dL_lengthBySteps_4 : decode cL_lengthBySteps 4 = .ok (.invokevirtual 68, 3) := by decide +kernel
theorem dL_lengthBySteps_7 : decode cL_lengthBySteps 7 = .ok (.dastore, 1) := by decide +kernel
theorem dL_lengthBySteps_8 : decode cL_lengthBySteps 8 = .ok (.goto 6, 3) := by decide +kernel
theorem dL_lengthBySteps_11 : decode cL_lengthBySteps 11 = .ok (.astore_n 3, 1) := by decide +kernel
theorem dL_lengthBySteps_12 : decode cL_lengthBySteps 12 = .ok (.iconst 1, 1) := by decide +kernel
theorem dL_lengthBySteps_13 : decode cL_lengthBySteps 13 = .ok (.ireturn, 1) := by decide +kernel
theorem dL_lengthBySteps_14 : decode cL_lengthBySteps 14 = .ok (.iconst 0, 1) := by decide +kernel
theorem dL_lengthBySteps_15 : decode cL_lengthBySteps 15 = .ok (.ireturn, 1) := by decide +kernel
set_option maxRecDepth 200000 in
theorem ggL_labelOf_X6_labelOf : GoodIn wsL_labelOf wsX6_labelOf := goodIn_ca (goodIn_r _ [6, 7, 8, 9, 10, 5, 11, 12, 13, 14, 15, 16, 17, 18, 19, 20, 21, 22, 23, 24, 25, 26, 27, 28, 29, 30, 31, 32, 33, 34] rfl (by decide +kernel)) (goodIn_sub (fun _ h => List.mem_cons_of_mem _ (List.mem_append_right _ h)) (by decide +kernel))
set_option maxRecDepth 200000 in
theorem gL_labelOf_X6_labelOf : GoodIn wsL_labelOf (wsV RL 71 RX6 yX6_labelOf wsX6_labelOf) := goodIn_app (goodIn_of _ (by decide +kernel)) ggL_labelOf_X6_labelOf
theorem dL_labelOf_0 : decode cL_labelOf 0 = .ok (.aload_n 2, 1) := by decide +kernel
theorem dL_labelOf_1 : decode cL_labelOf 1 = .ok (.iconst 0, 1) := by decide +kernel
theorem dL_labelOf_2 : decode cL_labelOf 2 = .ok (.aload_n 0, 1) := by decide +kernel
theorem dL_labelOf_3 : decode cL_labelOf 3 = .ok (.iload_n 1, 1) := by decide +kernel
theorem dL_labelOf_4 : decode cL_labelOf 4 = .ok (.invokevirtual 71, 3) := by decide +kernel
theorem dL_labelOf_7 : decode cL_labelOf 7 = .ok (.i2l, 1) := by decide +kernel
theorem dL_labelOf_8 : decode cL_labelOf 8 = .ok (.lastore, 1) := by decide +kernel
theorem dL_labelOf_9 : decode cL_labelOf 9 = .ok (.goto 6, 3) := by decide +kernel
theorem dL_labelOf_12 : decode cL_labelOf 12 = .ok (.astore_n 3, 1) := by decide +kernel
theorem dL_labelOf_13 : decode cL_labelOf 13 = .ok (.iconst 1, 1) := by decide +kernel
theorem dL_labelOf_14 : decode cL_labelOf 14 = .ok (.ireturn, 1) := by decide +kernel
theorem dL_labelOf_15 : decode cL_labelOf 15 = .ok (.iconst 0, 1) := by decide +kernel
theorem dL_labelOf_16 : decode cL_labelOf 16 = .ok (.ireturn, 1) := by decide +kernel
set_option maxRecDepth 200000 in
theorem ggL_isTurned_X6_isTurned : GoodIn wsL_isTurned wsX6_isTurned := goodIn_ca (goodIn_r _ [6, 7, 8, 9, 10, 5, 11, 12, 13, 14, 15, 16, 17, 18, 19, 20, 21, 22, 23, 24, 25, 26, 27, 28, 29, 30, 31, 32, 33, 34, 35, 36, 37, 38, 39, 40, 41, 42, 43, 44, 45, 46, 47, 48, 49, 50, 51, 52, 53, 54] rfl (by decide +kernel)) (goodIn_sub (fun _ h => List.mem_cons_of_mem _ (List.mem_append_right _ h)) (by decide +kernel))
set_option maxRecDepth 200000 in
theorem gL_isTurned_X6_isTurned : GoodIn wsL_isTurned (wsV RL 74 RX6 yX6_isTurned wsX6_isTurned) := goodIn_app (goodIn_of _ (by decide +kernel)) ggL_isTurned_X6_isTurned
theorem dL_isTurned_0 : decode cL_isTurned 0 = .ok (.aload_n 2, 1) := by decide +kernel
theorem dL_isTurned_1 : decode cL_isTurned 1 = .ok (.iconst 0, 1) := by decide +kernel
theorem dL_isTurned_2 : decode cL_isTurned 2 = .ok (.aload_n 0, 1) := by decide +kernel
theorem dL_isTurned_3 : decode cL_isTurned 3 = .ok (.iload_n 1, 1) := by decide +kernel
theorem dL_isTurned_4 : decode cL_isTurned 4 = .ok (.invokevirtual 74, 3) := by decide +kernel
theorem dL_isTurned_7 : decode cL_isTurned 7 = .ok (.ifCond .eq 7, 3) := by decide +kernel
theorem dL_isTurned_10 : decode cL_isTurned 10 = .ok (.lconst 1, 1) := by decide +kernel
theorem dL_isTurned_11 : decode cL_isTurned 11 = .ok (.goto 4, 3) := by decide +kernel
theorem dL_isTurned_14 : decode cL_isTurned 14 = .ok (.lconst 0, 1) := by decide +kernel
theorem dL_isTurned_15 : decode cL_isTurned 15 = .ok (.lastore, 1) := by decide +kernel
theorem dL_isTurned_16 : decode cL_isTurned 16 = .ok (.goto 6, 3) := by decide +kernel
theorem dL_isTurned_19 : decode cL_isTurned 19 = .ok (.astore_n 3, 1) := by decide +kernel
theorem dL_isTurned_20 : decode cL_isTurned 20 = .ok (.iconst 1, 1) := by decide +kernel
theorem dL_isTurned_21 : decode cL_isTurned 21 = .ok (.ireturn, 1) := by decide +kernel
theorem dL_isTurned_22 : decode cL_isTurned 22 = .ok (.iconst 0, 1) := by decide +kernel
theorem dL_isTurned_23 : decode cL_isTurned 23 = .ok (.ireturn, 1) := by decide +kernel
set_option maxRecDepth 200000 in
theorem ggL_readFrom_X6_readFrom : GoodIn wsL_readFrom wsX6_readFrom := goodIn_ca (goodIn_r _ [6, 7, 8, 9, 10, 5, 11, 12, 13, 14, 15, 16, 17, 18, 19, 20, 21, 22, 23, 24, 25, 26, 27, 28, 29, 30, 31, 32, 33, 34, 35, 36, 37, 38, 39, 40, 41, 42, 43, 44, 45, 46, 47, 48, 49, 50, 51, 52, 53, 54, 55, 56] rfl (by decide +kernel)) (goodIn_sub (fun _ h => List.mem_cons_of_mem _ (List.mem_append_right _ h)) (by decide +kernel))
set_option maxRecDepth 200000 in
theorem gL_readFrom_X6_readFrom : GoodIn wsL_readFrom (wsV RL 77 RX6 yX6_readFrom wsX6_readFrom) := goodIn_app (goodIn_of _ (by decide +kernel)) ggL_readFrom_X6_readFrom
theorem dL_readFrom_0 : decode cL_readFrom 0 = .ok (.aload_n 2, 1) := by decide +kernel
theorem dL_readFrom_1 : decode cL_readFrom 1 = .ok (.iconst 0, 1) := by decide +kernel
theorem dL_readFrom_2 : decode cL_readFrom 2 = .ok (.aload_n 0, 1) := by decide +kernel
theorem dL_readFrom_3 : decode cL_readFrom 3 = .ok (.iload_n 1, 1) := by decide +kernel
theorem dL_readFrom_4 : decode cL_readFrom 4 = .ok (.invokevirtual 77, 3) := by decide +kernel
theorem dL_readFrom_7 : decode cL_readFrom 7 = .ok (.i2l, 1) := by decide +kernel
theorem dL_readFrom_8 : decode cL_readFrom 8 = .ok (.lastore, 1) := by decide +kernel
theorem dL_readFrom_9 : decode cL_readFrom 9 = .ok (.goto 6, 3) := by decide +kernel
theorem dL_readFrom_12 : decode cL_readFrom 12 = .ok (.astore_n 3, 1) := by decide +kernel
theorem dL_readFrom_13 : decode cL_readFrom 13 = .ok (.iconst 1, 1) := by decide +kernel
theorem dL_readFrom_14 : decode cL_readFrom 14 = .ok (.ireturn, 1) := by decide +kernel
theorem dL_readFrom_15 : decode cL_readFrom 15 = .ok (.iconst 0, 1) := by decide +kernel
theorem dL_readFrom_16 : decode cL_readFrom 16 = .ok (.ireturn, 1) := by decide +kernel
set_option maxRecDepth 200000 in
theorem ggL_sizeOf_X6_sizeOf : GoodIn wsL_sizeOf wsX6_sizeOf := goodIn_ca (goodIn_r _ [6, 7, 8, 9, 10, 5, 11, 12, 13, 14, 15, 16, 17, 18, 19, 20, 21, 22, 23, 24, 25, 26, 27, 28, 29, 30, 31, 32, 33, 34] rfl (by decide +kernel)) (goodIn_sub (fun _ h => List.mem_cons_of_mem _ (List.mem_append_right _ h)) (by decide +kernel))
set_option maxRecDepth 200000 in
theorem gL_sizeOf_X6_sizeOf : GoodIn wsL_sizeOf (wsV RL 80 RX6 yX6_sizeOf wsX6_sizeOf) := goodIn_app (goodIn_of _ (by decide +kernel)) ggL_sizeOf_X6_sizeOf
theorem dL_sizeOf_0 : decode cL_sizeOf 0 = .ok (.aload_n 2, 1) := by decide +kernel
theorem dL_sizeOf_1 : decode cL_sizeOf 1 = .ok (.iconst 0, 1) := by decide +kernel
theorem dL_sizeOf_2 : decode cL_sizeOf 2 = .ok (.aload_n 0, 1) := by decide +kernel
theorem dL_sizeOf_3 : decode cL_sizeOf 3 = .ok (.iload_n 1, 1) := by decide +kernel
theorem dL_sizeOf_4 : decode cL_sizeOf 4 = .ok (.invokevirtual 80, 3) := by decide +kernel
theorem dL_sizeOf_7 : decode cL_sizeOf 7 = .ok (.i2l, 1) := by decide +kernel
theorem dL_sizeOf_8 : decode cL_sizeOf 8 = .ok (.lastore, 1) := by decide +kernel
theorem dL_sizeOf_9 : decode cL_sizeOf 9 = .ok (.goto 6, 3) := by decide +kernel
theorem dL_sizeOf_12 : decode cL_sizeOf 12 = .ok (.astore_n 3, 1) := by decide +kernel
theorem dL_sizeOf_13 : decode cL_sizeOf 13 = .ok (.iconst 1, 1) := by decide +kernel
theorem dL_sizeOf_14 : decode cL_sizeOf 14 = .ok (.ireturn, 1) := by decide +kernel
theorem dL_sizeOf_15 : decode cL_sizeOf 15 = .ok (.iconst 0, 1) := by decide +kernel
theorem dL_sizeOf_16 : decode cL_sizeOf 16 = .ok (.ireturn, 1) := by decide +kernel
set_option maxRecDepth 200000 in
theorem ggL_bendOf_X6_bendOf : GoodIn wsL_bendOf wsX6_bendOf := goodIn_ca (goodIn_r _ [6, 7, 8, 9, 10, 5, 11, 12, 13, 14, 15, 16, 17, 18, 19, 20, 21, 22, 23, 24, 25, 26, 27, 28, 29, 30, 31, 32, 33, 34, 35, 36, 37, 38, 39, 40, 41, 42, 43, 44, 45, 46, 47, 48, 49, 50, 51, 52, 53, 54, 55, 56, 57, 58, 59, 60, 61, 62, 63, 64, 65, 66, 67, 68, 69, 70, 71, 72] rfl (by decide +kernel)) (goodIn_sub (fun _ h => List.mem_cons_of_mem _ (List.mem_append_right _ h)) (by decide +kernel))
set_option maxRecDepth 200000 in
theorem gL_bendOf_X6_bendOf : GoodIn wsL_bendOf (wsV RL 83 RX6 yX6_bendOf wsX6_bendOf) := goodIn_app (goodIn_of _ (by decide +kernel)) ggL_bendOf_X6_bendOf
theorem dL_bendOf_0 : decode cL_bendOf 0 = .ok (.aload_n 3, 1) := by decide +kernel
theorem dL_bendOf_1 : decode cL_bendOf 1 = .ok (.iconst 0, 1) := by decide +kernel
theorem dL_bendOf_2 : decode cL_bendOf 2 = .ok (.aload_n 0, 1) := by decide +kernel
theorem dL_bendOf_3 : decode cL_bendOf 3 = .ok (.iload_n 1, 1) := by decide +kernel
theorem dL_bendOf_4 : decode cL_bendOf 4 = .ok (.iload_n 2, 1) := by decide +kernel
theorem dL_bendOf_5 : decode cL_bendOf 5 = .ok (.invokevirtual 83, 3) := by decide +kernel
theorem dL_bendOf_8 : decode cL_bendOf 8 = .ok (.i2l, 1) := by decide +kernel
theorem dL_bendOf_9 : decode cL_bendOf 9 = .ok (.lastore, 1) := by decide +kernel
theorem dL_bendOf_10 : decode cL_bendOf 10 = .ok (.goto 7, 3) := by decide +kernel
theorem dL_bendOf_13 : decode cL_bendOf 13 = .ok (.astore 4, 2) := by decide +kernel
theorem dL_bendOf_15 : decode cL_bendOf 15 = .ok (.iconst 1, 1) := by decide +kernel
theorem dL_bendOf_16 : decode cL_bendOf 16 = .ok (.ireturn, 1) := by decide +kernel
theorem dL_bendOf_17 : decode cL_bendOf 17 = .ok (.iconst 0, 1) := by decide +kernel
theorem dL_bendOf_18 : decode cL_bendOf 18 = .ok (.ireturn, 1) := by decide +kernel
set_option maxRecDepth 200000 in
theorem ggL_whyNotLabelled_X6_whyNotLabelled : GoodIn wsL_whyNotLabelled wsX6_whyNotLabelled := goodIn_ca (goodIn_r _ [6, 7, 8, 9, 10, 5, 11, 12, 13, 14, 15, 16, 17, 18, 19, 20, 21, 22, 23, 24, 25, 26, 27, 28, 29, 30, 31, 32, 33, 34, 35, 36, 37, 38, 39, 40, 41, 42, 43, 44, 45, 46, 47, 48, 49, 50, 51, 52, 53, 54, 55, 56, 57, 58, 59, 60, 61, 62, 63, 64, 65, 66, 67, 68, 69, 70, 71, 72, 73, 74, 75, 76, 77, 78, 79, 80, 81, 82, 83, 84, 85, 86, 87, 88, 89, 90, 91, 92, 93, 94, 95, 96, 97, 98, 99, 100, 101, 102, 103, 104, 105, 106, 107, 108, 109, 110, 111, 112, 113, 114, 115, 116, 117, 118, 119] rfl (by decide +kernel)) (goodIn_sub (fun _ h => List.mem_cons_of_mem _ (List.mem_append_right _ h)) (by decide +kernel))
set_option maxRecDepth 200000 in
theorem gL_whyNotLabelled_X6_whyNotLabelled : GoodIn wsL_whyNotLabelled (wsV RL 86 RX6 yX6_whyNotLabelled wsX6_whyNotLabelled) := goodIn_app (goodIn_of _ (by decide +kernel)) ggL_whyNotLabelled_X6_whyNotLabelled
theorem dL_whyNotLabelled_0 : decode cL_whyNotLabelled 0 = .ok (.aload_n 3, 1) := by decide +kernel
theorem dL_whyNotLabelled_1 : decode cL_whyNotLabelled 1 = .ok (.iconst 0, 1) := by decide +kernel
theorem dL_whyNotLabelled_2 : decode cL_whyNotLabelled 2 = .ok (.aload_n 0, 1) := by decide +kernel
theorem dL_whyNotLabelled_3 : decode cL_whyNotLabelled 3 = .ok (.iload_n 1, 1) := by decide +kernel
theorem dL_whyNotLabelled_4 : decode cL_whyNotLabelled 4 = .ok (.iload_n 2, 1) := by decide +kernel
theorem dL_whyNotLabelled_5 : decode cL_whyNotLabelled 5 = .ok (.invokevirtual 86, 3) := by decide +kernel
theorem dL_whyNotLabelled_8 : decode cL_whyNotLabelled 8 = .ok (.i2l, 1) := by decide +kernel
theorem dL_whyNotLabelled_9 : decode cL_whyNotLabelled 9 = .ok (.lastore, 1) := by decide +kernel
theorem dL_whyNotLabelled_10 : decode cL_whyNotLabelled 10 = .ok (.goto 7, 3) := by decide +kernel
theorem dL_whyNotLabelled_13 : decode cL_whyNotLabelled 13 = .ok (.astore 4, 2) := by decide +kernel
theorem dL_whyNotLabelled_15 : decode cL_whyNotLabelled 15 = .ok (.iconst 1, 1) := by decide +kernel
theorem dL_whyNotLabelled_16 : decode cL_whyNotLabelled 16 = .ok (.ireturn, 1) := by decide +kernel
theorem dL_whyNotLabelled_17 : decode cL_whyNotLabelled 17 = .ok (.iconst 0, 1) := by decide +kernel
theorem dL_whyNotLabelled_18 : decode cL_whyNotLabelled 18 = .ok (.ireturn, 1) := by decide +kernel
set_option maxRecDepth 200000 in
theorem ggL_placesOf_X6_placesOf : GoodIn wsL_placesOf wsX6_placesOf := goodIn_ca (goodIn_r _ [6, 7, 8, 9, 10, 5, 11, 12, 13, 14, 15, 16, 17, 18, 19, 20, 21, 22, 23, 24, 25, 26, 27, 28, 29, 30, 31, 32, 33, 34, 35, 36, 37, 38, 39, 40, 41, 42, 43, 44, 45, 46, 47, 48, 49, 50, 51, 52, 53, 54, 55, 56, 57, 58, 59, 60, 61, 62, 63, 64, 65, 66, 67, 68, 69, 70, 71, 72, 73, 74, 75, 76, 77, 78, 79, 80, 81, 82, 83, 84, 85, 86, 87, 88, 89, 90, 91, 92, 93, 94, 95, 96, 97, 98, 99, 100, 101, 102, 103, 104, 105, 106, 107, 108, 109, 110, 111, 112, 113, 114, 115, 116, 117, 118, 119, 120, 121, 122, 123, 124, 125] rfl (by decide +kernel)) (goodIn_sub (fun _ h => List.mem_cons_of_mem _ (List.mem_append_right _ h)) (by decide +kernel))
set_option maxRecDepth 200000 in
theorem gL_placesOf_X6_placesOf : GoodIn wsL_placesOf (wsV RL 89 RX6 yX6_placesOf wsX6_placesOf) := goodIn_app (goodIn_of _ (by decide +kernel)) ggL_placesOf_X6_placesOf
theorem dL_placesOf_0 : decode cL_placesOf 0 = .ok (.aload_n 2, 1) := by decide +kernel
theorem dL_placesOf_1 : decode cL_placesOf 1 = .ok (.iconst 0, 1) := by decide +kernel
theorem dL_placesOf_2 : decode cL_placesOf 2 = .ok (.aload_n 0, 1) := by decide +kernel
theorem dL_placesOf_3 : decode cL_placesOf 3 = .ok (.iload_n 1, 1) := by decide +kernel
theorem dL_placesOf_4 : decode cL_placesOf 4 = .ok (.invokevirtual 89, 3) := by decide +kernel
theorem dL_placesOf_7 : decode cL_placesOf 7 = .ok (.i2l, 1) := by decide +kernel
theorem dL_placesOf_8 : decode cL_placesOf 8 = .ok (.lastore, 1) := by decide +kernel
theorem dL_placesOf_9 : decode cL_placesOf 9 = .ok (.goto 6, 3) := by decide +kernel
theorem dL_placesOf_12 : decode cL_placesOf 12 = .ok (.astore_n 3, 1) := by decide +kernel
theorem dL_placesOf_13 : decode cL_placesOf 13 = .ok (.iconst 1, 1) := by decide +kernel
theorem dL_placesOf_14 : decode cL_placesOf 14 = .ok (.ireturn, 1) := by decide +kernel
theorem dL_placesOf_15 : decode cL_placesOf 15 = .ok (.iconst 0, 1) := by decide +kernel
theorem dL_placesOf_16 : decode cL_placesOf 16 = .ok (.ireturn, 1) := by decide +kernel
set_option maxRecDepth 200000 in
theorem ggL_bestPlace_X6_bestPlace : GoodIn wsL_bestPlace wsX6_bestPlace := goodIn_ca (goodIn_r _ [6, 7, 8, 9, 10, 5, 11, 12, 13, 14, 15, 16, 17, 18, 19, 20, 21, 22, 23, 24, 25, 26, 27, 28, 29, 30, 31, 32, 33, 34, 35, 36, 37, 38, 39, 40, 41, 42, 43, 44, 45, 46, 47, 48, 49, 50, 51, 52, 53, 54, 55, 56, 57, 58, 59, 60, 61, 62, 63, 64, 65, 66, 67, 68, 69, 70, 71, 72, 73, 74, 75, 76, 77, 78, 79, 80, 81, 82, 83, 84, 85, 86, 87, 88, 89, 90, 91, 92, 93, 94, 95, 96, 97, 98, 99, 100, 101, 102, 103, 104, 105, 106, 107, 108, 109, 110, 111, 112, 113, 114, 115, 116, 117, 118, 119, 120, 121, 122] rfl (by decide +kernel)) (goodIn_sub (fun _ h => List.mem_cons_of_mem _ (List.mem_append_right _ h)) (by decide +kernel))
set_option maxRecDepth 200000 in
theorem gL_bestPlace_X6_bestPlace : GoodIn wsL_bestPlace (wsV RL 92 RX6 yX6_bestPlace wsX6_bestPlace) := goodIn_app (goodIn_of _ (by decide +kernel)) ggL_bestPlace_X6_bestPlace
theorem dL_bestPlace_0 : decode cL_bestPlace 0 = .ok (.aload_n 2, 1) := by decide +kernel
theorem dL_bestPlace_1 : decode cL_bestPlace 1 = .ok (.iconst 0, 1) := by decide +kernel
theorem dL_bestPlace_2 : decode cL_bestPlace 2 = .ok (.aload_n 0, 1) := by decide +kernel
theorem dL_bestPlace_3 : decode cL_bestPlace 3 = .ok (.iload_n 1, 1) := by decide +kernel
theorem dL_bestPlace_4 : decode cL_bestPlace 4 = .ok (.invokevirtual 92, 3) := by decide +kernel
theorem dL_bestPlace_7 : decode cL_bestPlace 7 = .ok (.i2l, 1) := by decide +kernel
theorem dL_bestPlace_8 : decode cL_bestPlace 8 = .ok (.lastore, 1) := by decide +kernel
theorem dL_bestPlace_9 : decode cL_bestPlace 9 = .ok (.goto 6, 3) := by decide +kernel
theorem dL_bestPlace_12 : decode cL_bestPlace 12 = .ok (.astore_n 3, 1) := by decide +kernel
theorem dL_bestPlace_13 : decode cL_bestPlace 13 = .ok (.iconst 1, 1) := by decide +kernel
theorem dL_bestPlace_14 : decode cL_bestPlace 14 = .ok (.ireturn, 1) := by decide +kernel
theorem dL_bestPlace_15 : decode cL_bestPlace 15 = .ok (.iconst 0, 1) := by decide +kernel
theorem dL_bestPlace_16 : decode cL_bestPlace 16 = .ok (.ireturn, 1) := by decide +kernel
set_option maxRecDepth 200000 in
theorem ggL_isWithinByRays_X6_isWithinByRays : GoodIn wsL_isWithinByRays wsX6_isWithinByRays := goodIn_ca (goodIn_r _ [6, 7, 8, 9, 10, 5, 11, 12, 13, 14, 15, 16, 17, 18, 19, 20, 21, 22, 23, 24, 25, 26, 27, 28, 29, 30, 31, 32, 33, 34, 35, 36, 37, 38, 39, 40, 41, 42, 43, 44, 45, 46, 47, 48, 49, 50, 51, 52, 53, 54, 55, 56, 57, 58, 59, 60, 61, 62, 63, 64, 65, 66] rfl (by decide +kernel)) (goodIn_sub (fun _ h => List.mem_cons_of_mem _ (List.mem_append_right _ h)) (by decide +kernel))
set_option maxRecDepth 200000 in
theorem gL_isWithinByRays_X6_isWithinByRays : GoodIn wsL_isWithinByRays (wsV RL 95 RX6 yX6_isWithinByRays wsX6_isWithinByRays) := goodIn_app (goodIn_of _ (by decide +kernel)) ggL_isWithinByRays_X6_isWithinByRays
theorem dL_isWithinByRays_0 : decode cL_isWithinByRays 0 = .ok (.aload_n 3, 1) := by decide +kernel
theorem dL_isWithinByRays_1 : decode cL_isWithinByRays 1 = .ok (.iconst 0, 1) := by decide +kernel
theorem dL_isWithinByRays_2 : decode cL_isWithinByRays 2 = .ok (.aload_n 0, 1) := by decide +kernel
theorem dL_isWithinByRays_3 : decode cL_isWithinByRays 3 = .ok (.iload_n 1, 1) := by decide +kernel
theorem dL_isWithinByRays_4 : decode cL_isWithinByRays 4 = .ok (.iload_n 2, 1) := by decide +kernel
theorem dL_isWithinByRays_5 : decode cL_isWithinByRays 5 = .ok (.invokevirtual 95, 3) := by decide +kernel
theorem dL_isWithinByRays_8 : decode cL_isWithinByRays 8 = .ok (.ifCond .eq 7, 3) := by decide +kernel
theorem dL_isWithinByRays_11 : decode cL_isWithinByRays 11 = .ok (.lconst 1, 1) := by decide +kernel
theorem dL_isWithinByRays_12 : decode cL_isWithinByRays 12 = .ok (.goto 4, 3) := by decide +kernel
theorem dL_isWithinByRays_15 : decode cL_isWithinByRays 15 = .ok (.lconst 0, 1) := by decide +kernel
theorem dL_isWithinByRays_16 : decode cL_isWithinByRays 16 = .ok (.lastore, 1) := by decide +kernel
theorem dL_isWithinByRays_17 : decode cL_isWithinByRays 17 = .ok (.goto 7, 3) := by decide +kernel
theorem dL_isWithinByRays_20 : decode cL_isWithinByRays 20 = .ok (.astore 4, 2) := by decide +kernel
theorem dL_isWithinByRays_22 : decode cL_isWithinByRays 22 = .ok (.iconst 1, 1) := by decide +kernel
theorem dL_isWithinByRays_23 : decode cL_isWithinByRays 23 = .ok (.ireturn, 1) := by decide +kernel
theorem dL_isWithinByRays_24 : decode cL_isWithinByRays 24 = .ok (.iconst 0, 1) := by decide +kernel
theorem dL_isWithinByRays_25 : decode cL_isWithinByRays 25 = .ok (.ireturn, 1) := by decide +kernel
set_option maxRecDepth 200000 in
theorem ggL_isWithinBySpreading_X6_isWithinBySpreading : GoodIn wsL_isWithinBySpreading wsX6_isWithinBySpreading := goodIn_ca (goodIn_r _ [6, 7, 8, 9, 10, 11, 5, 12, 13, 14, 15, 16, 17, 18, 19, 20, 21, 22, 23, 24, 25, 26, 27, 28, 29, 30, 31, 32, 33, 34, 35, 36, 37, 38, 39, 40, 41, 42, 43, 44, 45, 46, 47, 48, 49, 50, 51, 52, 53, 54, 55, 56, 57, 58, 59, 60, 61, 62, 63, 64, 65, 66, 67, 68, 69, 70, 71, 72, 73, 74, 75, 76, 77, 78, 79, 80, 81, 82, 83, 84, 85, 86, 87, 88, 89, 90, 91, 92, 93] rfl (by decide +kernel)) (goodIn_sub (fun _ h => List.mem_cons_of_mem _ (List.mem_append_right _ h)) (by decide +kernel))
set_option maxRecDepth 200000 in
theorem gL_isWithinBySpreading_X6_isWithinBySpreading : GoodIn wsL_isWithinBySpreading (wsV RL 98 RX6 yX6_isWithinBySpreading wsX6_isWithinBySpreading) := goodIn_app (goodIn_of _ (by decide +kernel)) ggL_isWithinBySpreading_X6_isWithinBySpreading
theorem dL_isWithinBySpreading_0 : decode cL_isWithinBySpreading 0 = .ok (.aload_n 3, 1) := by decide +kernel
theorem dL_isWithinBySpreading_1 : decode cL_isWithinBySpreading 1 = .ok (.iconst 0, 1) := by decide +kernel
theorem dL_isWithinBySpreading_2 : decode cL_isWithinBySpreading 2 = .ok (.aload_n 0, 1) := by decide +kernel
theorem dL_isWithinBySpreading_3 : decode cL_isWithinBySpreading 3 = .ok (.iload_n 1, 1) := by decide +kernel
theorem dL_isWithinBySpreading_4 : decode cL_isWithinBySpreading 4 = .ok (.iload_n 2, 1) := by decide +kernel
theorem dL_isWithinBySpreading_5 : decode cL_isWithinBySpreading 5 = .ok (.invokevirtual 98, 3) := by decide +kernel
theorem dL_isWithinBySpreading_8 : decode cL_isWithinBySpreading 8 = .ok (.ifCond .eq 7, 3) := by decide +kernel
theorem dL_isWithinBySpreading_11 : decode cL_isWithinBySpreading 11 = .ok (.lconst 1, 1) := by decide +kernel
theorem dL_isWithinBySpreading_12 : decode cL_isWithinBySpreading 12 = .ok (.goto 4, 3) := by decide +kernel
theorem dL_isWithinBySpreading_15 : decode cL_isWithinBySpreading 15 = .ok (.lconst 0, 1) := by decide +kernel
theorem dL_isWithinBySpreading_16 : decode cL_isWithinBySpreading 16 = .ok (.lastore, 1) := by decide +kernel
theorem dL_isWithinBySpreading_17 : decode cL_isWithinBySpreading 17 = .ok (.goto 7, 3) := by decide +kernel
theorem dL_isWithinBySpreading_20 : decode cL_isWithinBySpreading 20 = .ok (.astore 4, 2) := by decide +kernel
theorem dL_isWithinBySpreading_22 : decode cL_isWithinBySpreading 22 = .ok (.iconst 1, 1) := by decide +kernel
theorem dL_isWithinBySpreading_23 : decode cL_isWithinBySpreading 23 = .ok (.ireturn, 1) := by decide +kernel
theorem dL_isWithinBySpreading_24 : decode cL_isWithinBySpreading 24 = .ok (.iconst 0, 1) := by decide +kernel
theorem dL_isWithinBySpreading_25 : decode cL_isWithinBySpreading 25 = .ok (.ireturn, 1) := by decide +kernel
set_option maxRecDepth 200000 in
theorem ggL_pointsWithin_X6_pointsWithin : GoodIn wsL_pointsWithin wsX6_pointsWithin := goodIn_ca (goodIn_r _ [6, 7, 8, 9, 10, 5, 11, 12, 13, 14, 15, 16, 17, 18, 19, 20, 21, 22, 23, 24, 25, 26, 27, 28, 29, 30, 31, 32, 33, 34, 35, 36, 37, 38, 39, 40, 41, 42, 43, 44, 45, 46, 47, 48, 49, 50, 51, 52, 53, 54, 55, 56, 57, 58, 59, 60] rfl (by decide +kernel)) (goodIn_sub (fun _ h => List.mem_cons_of_mem _ (List.mem_append_right _ h)) (by decide +kernel))
set_option maxRecDepth 200000 in
theorem gL_pointsWithin_X6_pointsWithin : GoodIn wsL_pointsWithin (wsV RL 101 RX6 yX6_pointsWithin wsX6_pointsWithin) := goodIn_app (goodIn_of _ (by decide +kernel)) ggL_pointsWithin_X6_pointsWithin
theorem dL_pointsWithin_0 : decode cL_pointsWithin 0 = .ok (.aload_n 2, 1) := by decide +kernel
theorem dL_pointsWithin_1 : decode cL_pointsWithin 1 = .ok (.iconst 0, 1) := by decide +kernel
theorem dL_pointsWithin_2 : decode cL_pointsWithin 2 = .ok (.aload_n 0, 1) := by decide +kernel
theorem dL_pointsWithin_3 : decode cL_pointsWithin 3 = .ok (.iload_n 1, 1) := by decide +kernel
theorem dL_pointsWithin_4 : decode cL_pointsWithin 4 = .ok (.invokevirtual 101, 3) := by decide +kernel
theorem dL_pointsWithin_7 : decode cL_pointsWithin 7 = .ok (.i2l, 1) := by decide +kernel
theorem dL_pointsWithin_8 : decode cL_pointsWithin 8 = .ok (.lastore, 1) := by decide +kernel
theorem dL_pointsWithin_9 : decode cL_pointsWithin 9 = .ok (.goto 6, 3) := by decide +kernel
theorem dL_pointsWithin_12 : decode cL_pointsWithin 12 = .ok (.astore_n 3, 1) := by decide +kernel
theorem dL_pointsWithin_13 : decode cL_pointsWithin 13 = .ok (.iconst 1, 1) := by decide +kernel
theorem dL_pointsWithin_14 : decode cL_pointsWithin 14 = .ok (.ireturn, 1) := by decide +kernel
theorem dL_pointsWithin_15 : decode cL_pointsWithin 15 = .ok (.iconst 0, 1) := by decide +kernel
theorem dL_pointsWithin_16 : decode cL_pointsWithin 16 = .ok (.ireturn, 1) := by decide +kernel
set_option maxRecDepth 200000 in
theorem ggL_lineRound_X6_lineRound : GoodIn wsL_lineRound wsX6_lineRound := goodIn_ca (goodIn_r _ [6, 7, 8, 9, 10, 5, 11, 12, 13, 14, 15, 16, 17, 18, 19, 20, 21, 22, 23, 24, 25, 26, 27, 28, 29, 30, 31, 32, 33, 34, 35, 36, 37, 38, 39, 40, 41, 42, 43, 44, 45, 46, 47, 48, 49, 50, 51, 52, 53, 54, 55, 56, 57, 58, 59, 60, 61, 62, 63, 64, 65, 66, 67] rfl (by decide +kernel)) (goodIn_sub (fun _ h => List.mem_cons_of_mem _ (List.mem_append_right _ h)) (by decide +kernel))
set_option maxRecDepth 200000 in
theorem gL_lineRound_X6_lineRound : GoodIn wsL_lineRound (wsV RL 104 RX6 yX6_lineRound wsX6_lineRound) := goodIn_app (goodIn_of _ (by decide +kernel)) ggL_lineRound_X6_lineRound
theorem dL_lineRound_0 : decode cL_lineRound 0 = .ok (.aload_n 2, 1) := by decide +kernel
theorem dL_lineRound_1 : decode cL_lineRound 1 = .ok (.iconst 0, 1) := by decide +kernel
theorem dL_lineRound_2 : decode cL_lineRound 2 = .ok (.aload_n 0, 1) := by decide +kernel
theorem dL_lineRound_3 : decode cL_lineRound 3 = .ok (.iload_n 1, 1) := by decide +kernel
theorem dL_lineRound_4 : decode cL_lineRound 4 = .ok (.invokevirtual 104, 3) := by decide +kernel
theorem dL_lineRound_7 : decode cL_lineRound 7 = .ok (.i2l, 1) := by decide +kernel
theorem dL_lineRound_8 : decode cL_lineRound 8 = .ok (.lastore, 1) := by decide +kernel
theorem dL_lineRound_9 : decode cL_lineRound 9 = .ok (.goto 6, 3) := by decide +kernel
theorem dL_lineRound_12 : decode cL_lineRound 12 = .ok (.astore_n 3, 1) := by decide +kernel
theorem dL_lineRound_13 : decode cL_lineRound 13 = .ok (.iconst 1, 1) := by decide +kernel
theorem dL_lineRound_14 : decode cL_lineRound 14 = .ok (.ireturn, 1) := by decide +kernel
theorem dL_lineRound_15 : decode cL_lineRound 15 = .ok (.iconst 0, 1) := by decide +kernel
theorem dL_lineRound_16 : decode cL_lineRound 16 = .ok (.ireturn, 1) := by decide +kernel
set_option maxRecDepth 200000 in
theorem ggL_isSteady_X6_isSteady : GoodIn wsL_isSteady wsX6_isSteady := goodIn_ca (goodIn_r _ [6, 7, 8, 9, 10, 11, 12, 13, 14, 5, 15, 16, 17, 18, 19, 20, 21, 22, 23, 24, 25, 26, 27, 28, 29, 30, 31, 32, 33, 34, 35, 36, 37, 38, 39, 40, 41, 42, 43, 44, 45, 46, 47, 48, 49, 50, 51, 52, 53, 54, 55, 56, 57, 58, 59, 60, 61, 62, 63, 64, 65, 66, 67, 68, 69, 70, 71, 72, 73, 74, 75, 76] rfl (by decide +kernel)) (goodIn_sub (fun _ h => List.mem_cons_of_mem _ (List.mem_append_right _ h)) (by decide +kernel))
set_option maxRecDepth 200000 in
theorem gL_isSteady_X6_isSteady : GoodIn wsL_isSteady (wsV RL 107 RX6 yX6_isSteady wsX6_isSteady) := goodIn_app (goodIn_of _ (by decide +kernel)) ggL_isSteady_X6_isSteady
theorem dL_isSteady_0 : decode cL_isSteady 0 = .ok (.aload_n 2, 1) := by decide +kernel
theorem dL_isSteady_1 : decode cL_isSteady 1 = .ok (.iconst 0, 1) := by decide +kernel
theorem dL_isSteady_2 : decode cL_isSteady 2 = .ok (.aload_n 0, 1) := by decide +kernel
theorem dL_isSteady_3 : decode cL_isSteady 3 = .ok (.iload_n 1, 1) := by decide +kernel
theorem dL_isSteady_4 : decode cL_isSteady 4 = .ok (.invokevirtual 107, 3) := by decide +kernel
theorem dL_isSteady_7 : decode cL_isSteady 7 = .ok (.ifCond .eq 7, 3) := by decide +kernel
theorem dL_isSteady_10 : decode cL_isSteady 10 = .ok (.lconst 1, 1) := by decide +kernel
theorem dL_isSteady_11 : decode cL_isSteady 11 = .ok (.goto 4, 3) := by decide +kernel
theorem dL_isSteady_14 : decode cL_isSteady 14 = .ok (.lconst 0, 1) := by decide +kernel
theorem dL_isSteady_15 : decode cL_isSteady 15 = .ok (.lastore, 1) := by decide +kernel
theorem dL_isSteady_16 : decode cL_isSteady 16 = .ok (.goto 6, 3) := by decide +kernel
theorem dL_isSteady_19 : decode cL_isSteady 19 = .ok (.astore_n 3, 1) := by decide +kernel
theorem dL_isSteady_20 : decode cL_isSteady 20 = .ok (.iconst 1, 1) := by decide +kernel
theorem dL_isSteady_21 : decode cL_isSteady 21 = .ok (.ireturn, 1) := by decide +kernel
theorem dL_isSteady_22 : decode cL_isSteady 22 = .ok (.iconst 0, 1) := by decide +kernel
theorem dL_isSteady_23 : decode cL_isSteady 23 = .ok (.ireturn, 1) := by decide +kernel
set_option maxRecDepth 200000 in
theorem ggL_lineByLevel_X6_lineByLevel : GoodIn wsL_lineByLevel wsX6_lineByLevel := goodIn_ca (goodIn_r _ [6, 7, 8, 9, 10, 11, 12, 13, 14, 15, 16, 17, 18, 19, 20, 21, 22, 23, 24, 25, 26, 27, 28, 29, 30, 31, 32, 33, 34, 35, 36, 37, 38] rfl (by decide +kernel)) (goodIn_sub (fun _ h => List.mem_cons_of_mem _ (List.mem_append_right _ h)) (by decide +kernel))
set_option maxRecDepth 200000 in
theorem gL_lineByLevel_X6_lineByLevel : GoodIn wsL_lineByLevel (wsV RL 110 RX6 yX6_lineByLevel wsX6_lineByLevel) := goodIn_app (goodIn_of _ (by decide +kernel)) ggL_lineByLevel_X6_lineByLevel
theorem dL_lineByLevel_0 : decode cL_lineByLevel 0 = .ok (.aload_n 2, 1) := by decide +kernel
theorem dL_lineByLevel_1 : decode cL_lineByLevel 1 = .ok (.iconst 0, 1) := by decide +kernel
theorem dL_lineByLevel_2 : decode cL_lineByLevel 2 = .ok (.aload_n 0, 1) := by decide +kernel
theorem dL_lineByLevel_3 : decode cL_lineByLevel 3 = .ok (.iload_n 1, 1) := by decide +kernel
theorem dL_lineByLevel_4 : decode cL_lineByLevel 4 = .ok (.invokevirtual 110, 3) := by decide +kernel
theorem dL_lineByLevel_7 : decode cL_lineByLevel 7 = .ok (.i2l, 1) := by decide +kernel
theorem dL_lineByLevel_8 : decode cL_lineByLevel 8 = .ok (.lastore, 1) := by decide +kernel
theorem dL_lineByLevel_9 : decode cL_lineByLevel 9 = .ok (.goto 6, 3) := by decide +kernel
theorem dL_lineByLevel_12 : decode cL_lineByLevel 12 = .ok (.astore_n 3, 1) := by decide +kernel
theorem dL_lineByLevel_13 : decode cL_lineByLevel 13 = .ok (.iconst 1, 1) := by decide +kernel
theorem dL_lineByLevel_14 : decode cL_lineByLevel 14 = .ok (.ireturn, 1) := by decide +kernel
theorem dL_lineByLevel_15 : decode cL_lineByLevel 15 = .ok (.iconst 0, 1) := by decide +kernel
theorem dL_lineByLevel_16 : decode cL_lineByLevel 16 = .ok (.ireturn, 1) := by decide +kernel
set_option maxRecDepth 200000 in
theorem ggL_append_X6_append : GoodIn wsL_append wsX6_append := goodIn_ca (goodIn_ca (goodIn_r _ [7, 8, 9, 10, 11, 12, 13, 14, 15, 16, 17, 18, 19, 20, 21, 22, 23, 24, 25, 26, 27, 28, 29, 30, 31, 32, 33, 34, 35, 36, 37, 38, 39, 40] rfl (by decide +kernel)) (goodIn_sub (fun _ h => List.mem_cons_of_mem _ (List.mem_append_left _ (List.mem_append_right _ h))) (by decide +kernel))) (goodIn_sub (fun _ h => List.mem_cons_of_mem _ (List.mem_append_right _ h)) (by decide +kernel))
set_option maxRecDepth 200000 in
theorem gL_append_X6_append : GoodIn wsL_append (wsV RL 113 RX6 yX6_append wsX6_append) := goodIn_app (goodIn_of _ (by decide +kernel)) ggL_append_X6_append
theorem dL_append_0 : decode cL_append 0 = .ok (.aload_n 2, 1) := by decide +kernel
theorem dL_append_1 : decode cL_append 1 = .ok (.iconst 0, 1) := by decide +kernel
theorem dL_append_2 : decode cL_append 2 = .ok (.aload_n 0, 1) := by decide +kernel
theorem dL_append_3 : decode cL_append 3 = .ok (.iload_n 1, 1) := by decide +kernel
theorem dL_append_4 : decode cL_append 4 = .ok (.invokevirtual 113, 3) := by decide +kernel
theorem dL_append_7 : decode cL_append 7 = .ok (.i2l, 1) := by decide +kernel
theorem dL_append_8 : decode cL_append 8 = .ok (.lastore, 1) := by decide +kernel
theorem dL_append_9 : decode cL_append 9 = .ok (.goto 9, 3) := by decide +kernel
theorem dL_append_12 : decode cL_append 12 = .ok (.astore_n 3, 1) := by decide +kernel
theorem dL_append_13 : decode cL_append 13 = .ok (.iconst 1, 1) := by decide +kernel
theorem dL_append_14 : decode cL_append 14 = .ok (.ireturn, 1) := by decide +kernel
theorem dL_append_15 : decode cL_append 15 = .ok (.astore_n 3, 1) := by decide +kernel
theorem dL_append_16 : decode cL_append 16 = .ok (.iconst 2, 1) := by decide +kernel
theorem dL_append_17 : decode cL_append 17 = .ok (.ireturn, 1) := by decide +kernel
theorem dL_append_18 : decode cL_append 18 = .ok (.iconst 0, 1) := by decide +kernel
theorem dL_append_19 : decode cL_append 19 = .ok (.ireturn, 1) := by decide +kernel
set_option maxRecDepth 200000 in
theorem ggL_runText_X6_runText : GoodIn wsL_runText wsX6_runText := goodIn_ca (goodIn_r _ [6, 7, 8, 9, 10, 11, 12, 13, 14, 15, 16, 17, 18, 19, 20, 21, 22, 23, 24, 25, 26, 27, 28, 29, 30, 31, 32, 33, 34, 35, 36, 37, 38, 39, 40, 41, 42, 43, 44, 45, 46, 47, 48, 49, 50, 51, 52, 53, 54, 55, 56, 57, 58, 59, 60, 61, 5, 62, 63, 64, 65, 66, 67, 68, 69, 70, 71, 72, 73, 74, 75, 76, 77, 78, 79, 80, 81, 82, 83, 84, 85, 86, 87, 88, 89, 90, 91, 92, 93, 94, 95, 96, 97, 98, 99, 100, 101, 102, 103, 104, 105, 106, 107, 108, 109, 110, 111, 112, 113, 114, 115, 116, 117, 118, 119, 120, 121, 122, 123, 124, 125, 126, 127, 128, 129, 130, 131, 132, 133, 134, 135, 136, 137, 138, 139, 140, 141, 142, 143, 144, 145, 146, 147, 148, 149, 150, 151, 152, 153, 154, 155, 156, 157, 158, 159, 160, 161, 162, 163, 164, 165, 166, 167, 168, 169, 170, 171, 172, 173, 174, 175, 176, 177, 178, 179, 180, 181, 182, 183, 184, 185, 186, 187, 188, 189, 190, 191, 192, 193, 194, 195, 196, 197, 198, 199, 200, 201, 202, 203, 204, 205, 206, 207, 208, 209, 210, 211, 212, 213, 214, 215, 216, 217, 218, 219, 220, 221, 222, 223, 224, 225, 226, 227, 228, 229, 230, 231, 232, 233, 234, 235, 236, 237, 238, 239, 240, 241, 242, 243, 244, 245, 246, 247, 248, 249, 250, 251, 252, 253, 254, 255, 256, 257, 258, 259, 260, 261, 262, 263, 264, 265, 266, 267, 268, 269, 270, 271, 272, 273, 274, 275, 276, 277, 278, 279, 280, 281, 282, 283, 284, 285, 286, 287, 288, 289, 290, 291, 292, 293, 294, 295, 296, 297, 298, 299, 300, 301, 302, 303, 304, 305, 306, 307, 308, 309, 310, 311, 312, 313, 314, 315, 316, 317, 318, 319, 320, 321, 322, 323, 324, 325, 326, 327, 328, 329, 330, 331, 332, 333, 334, 335, 336] rfl (by decide +kernel)) (goodIn_sub (fun _ h => List.mem_cons_of_mem _ (List.mem_append_right _ h)) (by decide +kernel))
set_option maxRecDepth 200000 in
theorem gL_runText_X6_runText : GoodIn wsL_runText (wsV RL 116 RX6 yX6_runText wsX6_runText) := goodIn_app (goodIn_of _ (by decide +kernel)) ggL_runText_X6_runText
theorem dL_runText_0 : decode cL_runText 0 = .ok (.aload_n 1, 1) := by decide +kernel
theorem dL_runText_1 : decode cL_runText 1 = .ok (.iconst 0, 1) := by decide +kernel
theorem dL_runText_2 : decode cL_runText 2 = .ok (.aload_n 0, 1) := by decide +kernel
theorem dL_runText_3 : decode cL_runText 3 = .ok (.invokevirtual 116, 3) := by decide +kernel
theorem dL_runText_6 : decode cL_runText 6 = .ok (.i2l, 1) := by decide +kernel
theorem dL_runText_7 : decode cL_runText 7 = .ok (.lastore, 1) := by decide +kernel
theorem dL_runText_8 : decode cL_runText 8 = .ok (.goto 6, 3) := by decide +kernel
theorem dL_runText_11 : decode cL_runText 11 = .ok (.astore_n 2, 1) := by decide +kernel
theorem dL_runText_12 : decode cL_runText 12 = .ok (.iconst 1, 1) := by decide +kernel
theorem dL_runText_13 : decode cL_runText 13 = .ok (.ireturn, 1) := by decide +kernel
theorem dL_runText_14 : decode cL_runText 14 = .ok (.iconst 0, 1) := by decide +kernel
theorem dL_runText_15 : decode cL_runText 15 = .ok (.ireturn, 1) := by decide +kernel
set_option maxRecDepth 200000 in
theorem ggL_undo_X6_undo : GoodIn wsL_undo wsX6_undo := goodIn_ca (goodIn_r _ [6, 7, 8, 9, 10, 11, 12, 13, 14, 15, 16, 17, 18, 19, 20, 21, 22, 23, 24, 25, 26, 27, 28, 29, 30, 31, 32, 33, 34, 35, 36, 37, 38, 39, 40, 41, 42, 43, 44, 45, 46, 47, 48, 49, 50, 51, 52, 53, 54, 55, 56, 57, 58, 59] rfl (by decide +kernel)) (goodIn_sub (fun _ h => List.mem_cons_of_mem _ (List.mem_append_right _ h)) (by decide +kernel))
set_option maxRecDepth 200000 in
theorem gL_undo_X6_undo : GoodIn wsL_undo (wsV RL 120 RX6 yX6_undo wsX6_undo) := goodIn_app (goodIn_of _ (by decide +kernel)) ggL_undo_X6_undo
theorem dL_undo_0 : decode cL_undo 0 = .ok (.aload_n 1, 1) := by decide +kernel
theorem dL_undo_1 : decode cL_undo 1 = .ok (.iconst 0, 1) := by decide +kernel
theorem dL_undo_2 : decode cL_undo 2 = .ok (.aload_n 0, 1) := by decide +kernel
theorem dL_undo_3 : decode cL_undo 3 = .ok (.invokevirtual 120, 3) := by decide +kernel
theorem dL_undo_6 : decode cL_undo 6 = .ok (.i2l, 1) := by decide +kernel
theorem dL_undo_7 : decode cL_undo 7 = .ok (.lastore, 1) := by decide +kernel
theorem dL_undo_8 : decode cL_undo 8 = .ok (.goto 6, 3) := by decide +kernel
theorem dL_undo_11 : decode cL_undo 11 = .ok (.astore_n 2, 1) := by decide +kernel
theorem dL_undo_12 : decode cL_undo 12 = .ok (.iconst 1, 1) := by decide +kernel
theorem dL_undo_13 : decode cL_undo 13 = .ok (.ireturn, 1) := by decide +kernel
theorem dL_undo_14 : decode cL_undo 14 = .ok (.iconst 0, 1) := by decide +kernel
theorem dL_undo_15 : decode cL_undo 15 = .ok (.ireturn, 1) := by decide +kernel
set_option maxRecDepth 200000 in
theorem ggL_restoreSnapshot_X6_restoreSnapshot : GoodIn wsL_restoreSnapshot wsX6_restoreSnapshot := goodIn_ca (goodIn_r _ [6, 7, 8, 9, 10, 11, 12, 13, 14, 15, 16, 17, 18, 19, 20, 21, 22, 23, 24, 25, 26, 27, 28, 29, 30, 31, 32, 33, 34, 35, 36, 37, 38, 39, 40, 41, 42, 43, 44, 45, 46, 47, 48, 49, 50, 51, 52, 53, 54, 55, 56, 57, 58, 59, 60, 61, 62, 63, 64, 65, 66, 67, 68, 69] rfl (by decide +kernel)) (goodIn_sub (fun _ h => List.mem_cons_of_mem _ (List.mem_append_right _ h)) (by decide +kernel))
set_option maxRecDepth 200000 in
theorem gL_restoreSnapshot_X6_restoreSnapshot : GoodIn wsL_restoreSnapshot (wsV RL 123 RX6 yX6_restoreSnapshot wsX6_restoreSnapshot) := goodIn_app (goodIn_of _ (by decide +kernel)) ggL_restoreSnapshot_X6_restoreSnapshot
theorem dL_restoreSnapshot_0 : decode cL_restoreSnapshot 0 = .ok (.aload_n 1, 1) := by decide +kernel
theorem dL_restoreSnapshot_1 : decode cL_restoreSnapshot 1 = .ok (.iconst 0, 1) := by decide +kernel
theorem dL_restoreSnapshot_2 : decode cL_restoreSnapshot 2 = .ok (.aload_n 0, 1) := by decide +kernel
theorem dL_restoreSnapshot_3 : decode cL_restoreSnapshot 3 = .ok (.invokevirtual 123, 3) := by decide +kernel
theorem dL_restoreSnapshot_6 : decode cL_restoreSnapshot 6 = .ok (.i2l, 1) := by decide +kernel
theorem dL_restoreSnapshot_7 : decode cL_restoreSnapshot 7 = .ok (.lastore, 1) := by decide +kernel
theorem dL_restoreSnapshot_8 : decode cL_restoreSnapshot 8 = .ok (.goto 6, 3) := by decide +kernel
theorem dL_restoreSnapshot_11 : decode cL_restoreSnapshot 11 = .ok (.astore_n 2, 1) := by decide +kernel
theorem dL_restoreSnapshot_12 : decode cL_restoreSnapshot 12 = .ok (.iconst 1, 1) := by decide +kernel
theorem dL_restoreSnapshot_13 : decode cL_restoreSnapshot 13 = .ok (.ireturn, 1) := by decide +kernel
theorem dL_restoreSnapshot_14 : decode cL_restoreSnapshot 14 = .ok (.iconst 0, 1) := by decide +kernel
theorem dL_restoreSnapshot_15 : decode cL_restoreSnapshot 15 = .ok (.ireturn, 1) := by decide +kernel
abbrev vwCl : List vw_C := [(RX0, TX0, 3), (RX1, TX1, 5), (RX3, TX3, 8), (RX4, TX4, 6), (RX6, TX6, 4), (RX7, TX7, 13)]
