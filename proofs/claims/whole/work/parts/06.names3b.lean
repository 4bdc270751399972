theorem dX7_setGap_5 : decode cX7_setGap 5 = .ok (.invokevirtual 134, 3) := by decide +kernel
theorem dX7_setGap_8 : decode cX7_setGap 8 = .ok (.ireturn, 1) := by decide +kernel
set_option maxRecDepth 200000 in
theorem ggX7_look_X7_isLine : GoodIn wsX7_look wsX7_isLine := goodIn_r _ [6, 7, 8, 9, 5, 10, 19, 20, 21, 22, 23, 24, 25, 26, 27, 28, 29, 30, 31] rfl (by decide +kernel)
set_option maxRecDepth 200000 in
theorem gX7_look_X7_isLine : GoodIn wsX7_look (wsV RX7 98 RX7 yX7_isLine wsX7_isLine) := goodIn_app (goodIn_of _ (by decide +kernel)) ggX7_look_X7_isLine
set_option maxRecDepth 200000 in
theorem ggX7_look_X7_of : GoodIn wsX7_look wsX7_of := goodIn_r _ [14, 7, 19, 20, 21, 22, 23, 24, 25, 26, 27, 28, 29, 30, 31] rfl (by decide +kernel)
set_option maxRecDepth 200000 in
theorem gX7_look_X7_of : GoodIn wsX7_look (wsV RX7 37 RX7 yX7_of wsX7_of) := goodIn_app (goodIn_of _ (by decide +kernel)) ggX7_look_X7_of
set_option maxRecDepth 200000 in
theorem ggX7_look_X7_fails : GoodIn wsX7_look wsX7_fails := goodIn_r _ [18, 1, 19, 20, 21, 22, 23, 24, 25, 26, 27, 28, 29, 30, 31] rfl (by decide +kernel)
set_option maxRecDepth 200000 in
theorem gX7_look_X7_fails : GoodIn wsX7_look (wsV RX7 137 RX7 yX7_fails wsX7_fails) := goodIn_app (goodIn_of _ (by decide +kernel)) ggX7_look_X7_fails
theorem dX7_look_0 : decode cX7_look 0 = .ok (.aload_n 0, 1) := by decide +kernel
theorem dX7_look_1 : decode cX7_look 1 = .ok (.iconst 0, 1) := by decide +kernel
theorem dX7_look_2 : decode cX7_look 2 = .ok (.putfield 22, 3) := by decide +kernel
theorem dX7_look_5 : decode cX7_look 5 = .ok (.aload_n 0, 1) := by decide +kernel
theorem dX7_look_6 : decode cX7_look 6 = .ok (.iload_n 1, 1) := by decide +kernel
theorem dX7_look_7 : decode cX7_look 7 = .ok (.invokevirtual 98, 3) := by decide +kernel
theorem dX7_look_10 : decode cX7_look 10 = .ok (.ifCond .eq 12, 3) := by decide +kernel
theorem dX7_look_13 : decode cX7_look 13 = .ok (.aload_n 0, 1) := by decide +kernel
theorem dX7_look_14 : decode cX7_look 14 = .ok (.iload_n 1, 1) := by decide +kernel
theorem dX7_look_15 : decode cX7_look 15 = .ok (.iload_n 2, 1) := by decide +kernel
theorem dX7_look_16 : decode cX7_look 16 = .ok (.invokevirtual 37, 3) := by decide +kernel
theorem dX7_look_19 : decode cX7_look 19 = .ok (.goto 8, 3) := by decide +kernel
theorem dX7_look_22 : decode cX7_look 22 = .ok (.aload_n 0, 1) := by decide +kernel
theorem dX7_look_23 : decode cX7_look 23 = .ok (.iconst 1, 1) := by decide +kernel
theorem dX7_look_24 : decode cX7_look 24 = .ok (.invokevirtual 137, 3) := by decide +kernel
theorem dX7_look_27 : decode cX7_look 27 = .ok (.ireturn, 1) := by decide +kernel
set_option maxRecDepth 200000 in
theorem ggX7_has_X7_isLine : GoodIn wsX7_has wsX7_isLine := goodIn_r _ [6, 7, 8, 9, 5, 10, 15, 16, 17, 18, 19, 20, 21, 22, 23, 24, 25, 26, 27] rfl (by decide +kernel)
set_option maxRecDepth 200000 in
theorem gX7_has_X7_isLine : GoodIn wsX7_has (wsV RX7 98 RX7 yX7_isLine wsX7_isLine) := goodIn_app (goodIn_of _ (by decide +kernel)) ggX7_has_X7_isLine
set_option maxRecDepth 200000 in
theorem ggX7_has_X7_of : GoodIn wsX7_has wsX7_of := goodIn_r _ [14, 7, 15, 16, 17, 18, 19, 20, 21, 22, 23, 24, 25, 26, 27] rfl (by decide +kernel)
set_option maxRecDepth 200000 in
theorem gX7_has_X7_of : GoodIn wsX7_has (wsV RX7 37 RX7 yX7_of wsX7_of) := goodIn_app (goodIn_of _ (by decide +kernel)) ggX7_has_X7_of
set_option maxRecDepth 200000 in
theorem ggX7_has_X7_in : GoodIn wsX7_has wsX7_in := goodIn_r _ [10] rfl (by decide +kernel)
set_option maxRecDepth 200000 in
theorem gX7_has_X7_in : GoodIn wsX7_has (va_wsS RX7 26 yX7_in wsX7_in) := goodIn_app (goodIn_of _ (by decide +kernel)) ggX7_has_X7_in
theorem dX7_has_0 : decode cX7_has 0 = .ok (.aload_n 0, 1) := by decide +kernel
theorem dX7_has_1 : decode cX7_has 1 = .ok (.aload_n 0, 1) := by decide +kernel
theorem dX7_has_2 : decode cX7_has 2 = .ok (.iload_n 1, 1) := by decide +kernel
theorem dX7_has_3 : decode cX7_has 3 = .ok (.invokevirtual 98, 3) := by decide +kernel
theorem dX7_has_6 : decode cX7_has 6 = .ok (.ifCond .eq 21, 3) := by decide +kernel
theorem dX7_has_9 : decode cX7_has 9 = .ok (.iload_n 2, 1) := by decide +kernel
theorem dX7_has_10 : decode cX7_has 10 = .ok (.iconst 0, 1) := by decide +kernel
theorem dX7_has_11 : decode cX7_has 11 = .ok (.aload_n 0, 1) := by decide +kernel
theorem dX7_has_12 : decode cX7_has 12 = .ok (.iload_n 1, 1) := by decide +kernel
theorem dX7_has_13 : decode cX7_has 13 = .ok (.iconst 2, 1) := by decide +kernel
theorem dX7_has_14 : decode cX7_has 14 = .ok (.invokevirtual 37, 3) := by decide +kernel
theorem dX7_has_17 : decode cX7_has 17 = .ok (.invokestatic 26, 3) := by decide +kernel
theorem dX7_has_20 : decode cX7_has 20 = .ok (.ifCond .eq 7, 3) := by decide +kernel
theorem dX7_has_23 : decode cX7_has 23 = .ok (.iconst 0, 1) := by decide +kernel
theorem dX7_has_24 : decode cX7_has 24 = .ok (.goto 4, 3) := by decide +kernel
theorem dX7_has_27 : decode cX7_has 27 = .ok (.iconst 1, 1) := by decide +kernel
theorem dX7_has_28 : decode cX7_has 28 = .ok (.putfield 22, 3) := by decide +kernel
theorem dX7_has_31 : decode cX7_has 31 = .ok (.aload_n 0, 1) := by decide +kernel
theorem dX7_has_32 : decode cX7_has 32 = .ok (.getfield 22, 3) := by decide +kernel
theorem dX7_has_35 : decode cX7_has 35 = .ok (.ifCond .ne 7, 3) := by decide +kernel
theorem dX7_has_38 : decode cX7_has 38 = .ok (.iconst 1, 1) := by decide +kernel
theorem dX7_has_39 : decode cX7_has 39 = .ok (.goto 4, 3) := by decide +kernel
theorem dX7_has_42 : decode cX7_has 42 = .ok (.iconst 0, 1) := by decide +kernel
theorem dX7_has_43 : decode cX7_has 43 = .ok (.ireturn, 1) := by decide +kernel
set_option maxRecDepth 200000 in
theorem ggX7_knows_X7_isLine : GoodIn wsX7_knows wsX7_isLine := goodIn_r _ [6, 7, 8, 9, 5, 10, 11, 12, 13, 14, 15, 16, 17, 18, 19, 20, 21, 22, 23] rfl (by decide +kernel)
set_option maxRecDepth 200000 in
theorem gX7_knows_X7_isLine : GoodIn wsX7_knows (wsV RX7 98 RX7 yX7_isLine wsX7_isLine) := goodIn_app (goodIn_of _ (by decide +kernel)) ggX7_knows_X7_isLine
theorem dX7_knows_0 : decode cX7_knows 0 = .ok (.aload_n 0, 1) := by decide +kernel
theorem dX7_knows_1 : decode cX7_knows 1 = .ok (.aload_n 0, 1) := by decide +kernel
theorem dX7_knows_2 : decode cX7_knows 2 = .ok (.iload_n 1, 1) := by decide +kernel
theorem dX7_knows_3 : decode cX7_knows 3 = .ok (.invokevirtual 98, 3) := by decide +kernel
theorem dX7_knows_6 : decode cX7_knows 6 = .ok (.ifCond .eq 7, 3) := by decide +kernel
theorem dX7_knows_9 : decode cX7_knows 9 = .ok (.iconst 0, 1) := by decide +kernel
theorem dX7_knows_10 : decode cX7_knows 10 = .ok (.goto 4, 3) := by decide +kernel
theorem dX7_knows_13 : decode cX7_knows 13 = .ok (.iconst 1, 1) := by decide +kernel
theorem dX7_knows_14 : decode cX7_knows 14 = .ok (.putfield 22, 3) := by decide +kernel
theorem dX7_knows_17 : decode cX7_knows 17 = .ok (.aload_n 0, 1) := by decide +kernel
theorem dX7_knows_18 : decode cX7_knows 18 = .ok (.getfield 22, 3) := by decide +kernel
theorem dX7_knows_21 : decode cX7_knows 21 = .ok (.ifCond .ne 7, 3) := by decide +kernel
theorem dX7_knows_24 : decode cX7_knows 24 = .ok (.iconst 1, 1) := by decide +kernel
theorem dX7_knows_25 : decode cX7_knows 25 = .ok (.goto 4, 3) := by decide +kernel
theorem dX7_knows_28 : decode cX7_knows 28 = .ok (.iconst 0, 1) := by decide +kernel
theorem dX7_knows_29 : decode cX7_knows 29 = .ok (.ireturn, 1) := by decide +kernel
theorem dX7_lines_0 : decode cX7_lines 0 = .ok (.aload_n 0, 1) := by decide +kernel
theorem dX7_lines_1 : decode cX7_lines 1 = .ok (.iconst 0, 1) := by decide +kernel
theorem dX7_lines_2 : decode cX7_lines 2 = .ok (.putfield 22, 3) := by decide +kernel
theorem dX7_lines_5 : decode cX7_lines 5 = .ok (.aload_n 0, 1) := by decide +kernel
theorem dX7_lines_6 : decode cX7_lines 6 = .ok (.getfield 7, 3) := by decide +kernel
theorem dX7_lines_9 : decode cX7_lines 9 = .ok (.iconst 0, 1) := by decide +kernel
theorem dX7_lines_10 : decode cX7_lines 10 = .ok (.iaload, 1) := by decide +kernel
theorem dX7_lines_11 : decode cX7_lines 11 = .ok (.ireturn, 1) := by decide +kernel
set_option maxRecDepth 200000 in
theorem ggX7_levelOf_X7_look : GoodIn wsX7_levelOf wsX7_look := goodIn_r _ [5, 6, 7, 8, 9, 4, 10, 11, 12, 13, 14, 15, 16, 17, 18, 19, 20, 21, 22, 23, 24, 25, 26, 27, 28, 29, 30, 31, 32, 33, 34, 35] rfl (by decide +kernel)
set_option maxRecDepth 200000 in
theorem gX7_levelOf_X7_look : GoodIn wsX7_levelOf (wsV RX7 140 RX7 yX7_look wsX7_look) := goodIn_app (goodIn_of _ (by decide +kernel)) ggX7_levelOf_X7_look
theorem dX7_levelOf_0 : decode cX7_levelOf 0 = .ok (.aload_n 0, 1) := by decide +kernel
theorem dX7_levelOf_1 : decode cX7_levelOf 1 = .ok (.iload_n 1, 1) := by decide +kernel
theorem dX7_levelOf_2 : decode cX7_levelOf 2 = .ok (.iconst 0, 1) := by decide +kernel
theorem dX7_levelOf_3 : decode cX7_levelOf 3 = .ok (.invokevirtual 140, 3) := by decide +kernel
theorem dX7_levelOf_6 : decode cX7_levelOf 6 = .ok (.ireturn, 1) := by decide +kernel
set_option maxRecDepth 200000 in
theorem ggX7_stepsOf_X7_look : GoodIn wsX7_stepsOf wsX7_look := goodIn_r _ [5, 6, 7, 8, 9, 4, 10, 11, 12, 13, 14, 15, 16, 17, 18, 19, 20, 21, 22, 23, 24, 25, 26, 27, 28, 29, 30, 31, 32, 33, 34, 35] rfl (by decide +kernel)
set_option maxRecDepth 200000 in
theorem gX7_stepsOf_X7_look : GoodIn wsX7_stepsOf (wsV RX7 140 RX7 yX7_look wsX7_look) := goodIn_app (goodIn_of _ (by decide +kernel)) ggX7_stepsOf_X7_look
theorem dX7_stepsOf_0 : decode cX7_stepsOf 0 = .ok (.aload_n 0, 1) := by decide +kernel
theorem dX7_stepsOf_1 : decode cX7_stepsOf 1 = .ok (.iload_n 1, 1) := by decide +kernel
theorem dX7_stepsOf_2 : decode cX7_stepsOf 2 = .ok (.iconst 2, 1) := by decide +kernel
theorem dX7_stepsOf_3 : decode cX7_stepsOf 3 = .ok (.invokevirtual 140, 3) := by decide +kernel
theorem dX7_stepsOf_6 : decode cX7_stepsOf 6 = .ok (.ireturn, 1) := by decide +kernel
set_option maxRecDepth 200000 in
theorem ggX7_pointOf_X7_has : GoodIn wsX7_pointOf wsX7_has := goodIn_r _ [5, 6, 7, 8, 9, 4, 10, 11, 12, 13, 14, 15, 16, 17, 18, 29, 30, 31, 32, 33, 34, 35, 36, 37, 38, 39, 40, 41] rfl (by decide +kernel)
set_option maxRecDepth 200000 in
theorem gX7_pointOf_X7_has : GoodIn wsX7_pointOf (wsV RX7 143 RX7 yX7_has wsX7_has) := goodIn_app (goodIn_of _ (by decide +kernel)) ggX7_pointOf_X7_has
set_option maxRecDepth 200000 in
theorem ggX7_pointOf_X7_at : GoodIn wsX7_pointOf wsX7_at := goodIn_r _ [22, 15, 16, 17, 4, 18, 11, 23, 24, 25, 12, 13, 14, 26, 27, 28, 29, 30, 31, 32, 33, 34, 35, 36, 37, 38, 39, 40, 41] rfl (by decide +kernel)
set_option maxRecDepth 200000 in
theorem gX7_pointOf_X7_at : GoodIn wsX7_pointOf (wsV RX7 41 RX7 yX7_at wsX7_at) := goodIn_app (goodIn_of _ (by decide +kernel)) ggX7_pointOf_X7_at
theorem dX7_pointOf_0 : decode cX7_pointOf 0 = .ok (.aload_n 0, 1) := by decide +kernel
theorem dX7_pointOf_1 : decode cX7_pointOf 1 = .ok (.iload_n 1, 1) := by decide +kernel
theorem dX7_pointOf_2 : decode cX7_pointOf 2 = .ok (.iload_n 2, 1) := by decide +kernel
theorem dX7_pointOf_3 : decode cX7_pointOf 3 = .ok (.invokevirtual 143, 3) := by decide +kernel
theorem dX7_pointOf_6 : decode cX7_pointOf 6 = .ok (.ifCond .eq 12, 3) := by decide +kernel
theorem dX7_pointOf_9 : decode cX7_pointOf 9 = .ok (.aload_n 0, 1) := by decide +kernel
theorem dX7_pointOf_10 : decode cX7_pointOf 10 = .ok (.iload_n 1, 1) := by decide +kernel
theorem dX7_pointOf_11 : decode cX7_pointOf 11 = .ok (.iload_n 2, 1) := by decide +kernel
theorem dX7_pointOf_12 : decode cX7_pointOf 12 = .ok (.invokevirtual 41, 3) := by decide +kernel
theorem dX7_pointOf_15 : decode cX7_pointOf 15 = .ok (.goto 4, 3) := by decide +kernel
theorem dX7_pointOf_18 : decode cX7_pointOf 18 = .ok (.iconst 0, 1) := by decide +kernel
theorem dX7_pointOf_19 : decode cX7_pointOf 19 = .ok (.ireturn, 1) := by decide +kernel
set_option maxRecDepth 200000 in
theorem ggX7_lineAt_X7_isPoint : GoodIn wsX7_lineAt wsX7_isPoint := goodIn_r _ [5, 6, 7, 4, 8] rfl (by decide +kernel)
set_option maxRecDepth 200000 in
theorem gX7_lineAt_X7_isPoint : GoodIn wsX7_lineAt (va_wsS RX7 95 yX7_isPoint wsX7_isPoint) := goodIn_app (goodIn_of _ (by decide +kernel)) ggX7_lineAt_X7_isPoint
set_option maxRecDepth 200000 in
theorem ggX7_lineAt_X7_owner : GoodIn wsX7_lineAt wsX7_owner := goodIn_r _ [12, 13, 14, 15, 16, 4, 17, 18, 19, 20, 6, 7, 8, 21, 22, 23, 28, 29, 30, 31, 32, 33, 34, 35, 36, 37, 38, 39, 40] rfl (by decide +kernel)
set_option maxRecDepth 200000 in
theorem gX7_lineAt_X7_owner : GoodIn wsX7_lineAt (wsV RX7 54 RX7 yX7_owner wsX7_owner) := goodIn_app (goodIn_of _ (by decide +kernel)) ggX7_lineAt_X7_owner
set_option maxRecDepth 200000 in
theorem ggX7_lineAt_X7_fails : GoodIn wsX7_lineAt wsX7_fails := goodIn_r _ [27, 1, 28, 29, 30, 31, 32, 33, 34, 35, 36, 37, 38, 39, 40] rfl (by decide +kernel)
set_option maxRecDepth 200000 in
theorem gX7_lineAt_X7_fails : GoodIn wsX7_lineAt (wsV RX7 137 RX7 yX7_fails wsX7_fails) := goodIn_app (goodIn_of _ (by decide +kernel)) ggX7_lineAt_X7_fails
theorem dX7_lineAt_0 : decode cX7_lineAt 0 = .ok (.aload_n 0, 1) := by decide +kernel
theorem dX7_lineAt_1 : decode cX7_lineAt 1 = .ok (.iconst 0, 1) := by decide +kernel
theorem dX7_lineAt_2 : decode cX7_lineAt 2 = .ok (.putfield 22, 3) := by decide +kernel
theorem dX7_lineAt_5 : decode cX7_lineAt 5 = .ok (.iload_n 1, 1) := by decide +kernel
theorem dX7_lineAt_6 : decode cX7_lineAt 6 = .ok (.invokestatic 95, 3) := by decide +kernel
theorem dX7_lineAt_9 : decode cX7_lineAt 9 = .ok (.ifCond .eq 11, 3) := by decide +kernel
theorem dX7_lineAt_12 : decode cX7_lineAt 12 = .ok (.aload_n 0, 1) := by decide +kernel
theorem dX7_lineAt_13 : decode cX7_lineAt 13 = .ok (.iload_n 1, 1) := by decide +kernel
theorem dX7_lineAt_14 : decode cX7_lineAt 14 = .ok (.invokevirtual 54, 3) := by decide +kernel
theorem dX7_lineAt_17 : decode cX7_lineAt 17 = .ok (.goto 8, 3) := by decide +kernel
theorem dX7_lineAt_20 : decode cX7_lineAt 20 = .ok (.aload_n 0, 1) := by decide +kernel
theorem dX7_lineAt_21 : decode cX7_lineAt 21 = .ok (.iconst 1, 1) := by decide +kernel
theorem dX7_lineAt_22 : decode cX7_lineAt 22 = .ok (.invokevirtual 137, 3) := by decide +kernel
theorem dX7_lineAt_25 : decode cX7_lineAt 25 = .ok (.ireturn, 1) := by decide +kernel
set_option maxRecDepth 200000 in
theorem ggX7_isClosed_X7_knows : GoodIn wsX7_isClosed wsX7_knows := goodIn_r _ [5, 6, 7, 8, 9, 4, 10, 11, 12, 13, 14, 37, 38, 39, 40, 41, 42, 43, 44, 45, 46, 47, 48, 49] rfl (by decide +kernel)
set_option maxRecDepth 200000 in
theorem gX7_isClosed_X7_knows : GoodIn wsX7_isClosed (wsV RX7 146 RX7 yX7_knows wsX7_knows) := goodIn_app (goodIn_of _ (by decide +kernel)) ggX7_isClosed_X7_knows
set_option maxRecDepth 200000 in
theorem ggX7_isClosed_X7_closes : GoodIn wsX7_isClosed wsX7_closes := goodIn_r _ [18, 19, 20, 21, 4, 22, 11, 23, 24, 25, 26, 27, 28, 29, 30, 31, 32, 33, 12, 13, 14, 34, 35, 36, 37, 38, 39, 40, 41, 42, 43, 44, 45, 46, 47, 48, 49] rfl (by decide +kernel)
set_option maxRecDepth 200000 in
theorem gX7_isClosed_X7_closes : GoodIn wsX7_isClosed (wsV RX7 47 RX7 yX7_closes wsX7_closes) := goodIn_app (goodIn_of _ (by decide +kernel)) ggX7_isClosed_X7_closes
theorem dX7_isClosed_0 : decode cX7_isClosed 0 = .ok (.aload_n 0, 1) := by decide +kernel
theorem dX7_isClosed_1 : decode cX7_isClosed 1 = .ok (.iload_n 1, 1) := by decide +kernel
theorem dX7_isClosed_2 : decode cX7_isClosed 2 = .ok (.invokevirtual 146, 3) := by decide +kernel
theorem dX7_isClosed_5 : decode cX7_isClosed 5 = .ok (.ifCond .eq 15, 3) := by decide +kernel
theorem dX7_isClosed_8 : decode cX7_isClosed 8 = .ok (.aload_n 0, 1) := by decide +kernel
theorem dX7_isClosed_9 : decode cX7_isClosed 9 = .ok (.iload_n 1, 1) := by decide +kernel
theorem dX7_isClosed_10 : decode cX7_isClosed 10 = .ok (.invokevirtual 47, 3) := by decide +kernel
theorem dX7_isClosed_13 : decode cX7_isClosed 13 = .ok (.ifCond .eq 7, 3) := by decide +kernel
theorem dX7_isClosed_16 : decode cX7_isClosed 16 = .ok (.iconst 1, 1) := by decide +kernel
theorem dX7_isClosed_17 : decode cX7_isClosed 17 = .ok (.goto 4, 3) := by decide +kernel
theorem dX7_isClosed_20 : decode cX7_isClosed 20 = .ok (.iconst 0, 1) := by decide +kernel
theorem dX7_isClosed_21 : decode cX7_isClosed 21 = .ok (.ireturn, 1) := by decide +kernel
set_option maxRecDepth 200000 in
theorem ggX7_whyNotStepped_X7_isLine : GoodIn wsX7_whyNotStepped wsX7_isLine := goodIn_r _ [6, 7, 8, 9, 5, 10, 52, 53, 54, 55, 56, 57, 58, 59, 60, 61, 62, 63, 64] rfl (by decide +kernel)
set_option maxRecDepth 200000 in
theorem gX7_whyNotStepped_X7_isLine : GoodIn wsX7_whyNotStepped (wsV RX7 98 RX7 yX7_isLine wsX7_isLine) := goodIn_app (goodIn_of _ (by decide +kernel)) ggX7_whyNotStepped_X7_isLine
set_option maxRecDepth 200000 in
theorem ggX7_whyNotStepped_X7_fails : GoodIn wsX7_whyNotStepped wsX7_fails := goodIn_r _ [14, 1, 52, 53, 54, 55, 56, 57, 58, 59, 60, 61, 62, 63, 64] rfl (by decide +kernel)
set_option maxRecDepth 200000 in
theorem gX7_whyNotStepped_X7_fails : GoodIn wsX7_whyNotStepped (wsV RX7 137 RX7 yX7_fails wsX7_fails) := goodIn_app (goodIn_of _ (by decide +kernel)) ggX7_whyNotStepped_X7_fails
set_option maxRecDepth 200000 in
theorem ggX7_whyNotStepped_X7_in : GoodIn wsX7_whyNotStepped wsX7_in := goodIn_r _ [10] rfl (by decide +kernel)
set_option maxRecDepth 200000 in
theorem gX7_whyNotStepped_X7_in : GoodIn wsX7_whyNotStepped (va_wsS RX7 26 yX7_in wsX7_in) := goodIn_app (goodIn_of _ (by decide +kernel)) ggX7_whyNotStepped_X7_in
set_option maxRecDepth 200000 in
theorem ggX7_whyNotStepped_X7_whyNot : GoodIn wsX7_whyNotStepped wsX7_whyNot := goodIn_r _ [18, 19, 20, 21, 5, 22, 23, 24, 25, 26, 7, 27, 28, 29, 30, 31, 32, 33, 34, 35, 36, 37, 8, 9, 10, 38, 39, 40, 41, 42, 43, 44, 45, 46, 47, 48, 49, 50, 51, 52, 53, 54, 55, 56, 57, 58, 59, 60, 61, 62, 63, 64] rfl (by decide +kernel)
set_option maxRecDepth 200000 in
theorem gX7_whyNotStepped_X7_whyNot : GoodIn wsX7_whyNotStepped (wsV RX7 101 RX7 yX7_whyNot wsX7_whyNot) := goodIn_app (goodIn_of _ (by decide +kernel)) ggX7_whyNotStepped_X7_whyNot
theorem dX7_whyNotStepped_0 : decode cX7_whyNotStepped 0 = .ok (.aload_n 0, 1) := by decide +kernel
theorem dX7_whyNotStepped_1 : decode cX7_whyNotStepped 1 = .ok (.iconst 0, 1) := by decide +kernel
theorem dX7_whyNotStepped_2 : decode cX7_whyNotStepped 2 = .ok (.putfield 22, 3) := by decide +kernel
theorem dX7_whyNotStepped_5 : decode cX7_whyNotStepped 5 = .ok (.aload_n 0, 1) := by decide +kernel
theorem dX7_whyNotStepped_6 : decode cX7_whyNotStepped 6 = .ok (.iload_n 1, 1) := by decide +kernel
theorem dX7_whyNotStepped_7 : decode cX7_whyNotStepped 7 = .ok (.invokevirtual 98, 3) := by decide +kernel
theorem dX7_whyNotStepped_10 : decode cX7_whyNotStepped 10 = .ok (.ifCond .ne 9, 3) := by decide +kernel
theorem dX7_whyNotStepped_13 : decode cX7_whyNotStepped 13 = .ok (.aload_n 0, 1) := by decide +kernel
theorem dX7_whyNotStepped_14 : decode cX7_whyNotStepped 14 = .ok (.iconst 1, 1) := by decide +kernel
theorem dX7_whyNotStepped_15 : decode cX7_whyNotStepped 15 = .ok (.invokevirtual 137, 3) := by decide +kernel
theorem dX7_whyNotStepped_18 : decode cX7_whyNotStepped 18 = .ok (.ireturn, 1) := by decide +kernel
theorem dX7_whyNotStepped_19 : decode cX7_whyNotStepped 19 = .ok (.iload_n 2, 1) := by decide +kernel
theorem dX7_whyNotStepped_20 : decode cX7_whyNotStepped 20 = .ok (.iconst 0, 1) := by decide +kernel
theorem dX7_whyNotStepped_21 : decode cX7_whyNotStepped 21 = .ok (.bipush 7, 2) := by decide +kernel
theorem dX7_whyNotStepped_23 : decode cX7_whyNotStepped 23 = .ok (.invokestatic 26, 3) := by decide +kernel
theorem dX7_whyNotStepped_26 : decode cX7_whyNotStepped 26 = .ok (.ifCond .eq 12, 3) := by decide +kernel
theorem dX7_whyNotStepped_29 : decode cX7_whyNotStepped 29 = .ok (.aload_n 0, 1) := by decide +kernel
theorem dX7_whyNotStepped_30 : decode cX7_whyNotStepped 30 = .ok (.iload_n 1, 1) := by decide +kernel
theorem dX7_whyNotStepped_31 : decode cX7_whyNotStepped 31 = .ok (.iload_n 2, 1) := by decide +kernel
theorem dX7_whyNotStepped_32 : decode cX7_whyNotStepped 32 = .ok (.invokevirtual 101, 3) := by decide +kernel
theorem dX7_whyNotStepped_35 : decode cX7_whyNotStepped 35 = .ok (.goto 8, 3) := by decide +kernel
theorem dX7_whyNotStepped_38 : decode cX7_whyNotStepped 38 = .ok (.aload_n 0, 1) := by decide +kernel
theorem dX7_whyNotStepped_39 : decode cX7_whyNotStepped 39 = .ok (.iconst 2, 1) := by decide +kernel
theorem dX7_whyNotStepped_40 : decode cX7_whyNotStepped 40 = .ok (.invokevirtual 137, 3) := by decide +kernel
theorem dX7_whyNotStepped_43 : decode cX7_whyNotStepped 43 = .ok (.ireturn, 1) := by decide +kernel
set_option maxRecDepth 200000 in
theorem ggX7_bendAt_X7_has : GoodIn wsX7_bendAt wsX7_has := goodIn_r _ [5, 6, 7, 8, 9, 4, 10, 11, 12, 13, 14, 15, 16, 17, 18, 47, 48, 49, 50, 51, 52, 53, 54, 55, 56, 57, 58, 59] rfl (by decide +kernel)
set_option maxRecDepth 200000 in
theorem gX7_bendAt_X7_has : GoodIn wsX7_bendAt (wsV RX7 143 RX7 yX7_has wsX7_has) := goodIn_app (goodIn_of _ (by decide +kernel)) ggX7_bendAt_X7_has
set_option maxRecDepth 200000 in
theorem ggX7_bendAt_X7_bend : GoodIn wsX7_bendAt wsX7_bend := goodIn_r _ [22, 15, 16, 17, 4, 18, 11, 23, 24, 25, 26, 27, 28, 29, 30, 31, 32, 33, 34, 35, 36, 37, 38, 39, 40, 41, 42, 43, 12, 13, 14, 44, 45, 46, 47, 48, 49, 50, 51, 52, 53, 54, 55, 56, 57, 58, 59] rfl (by decide +kernel)
set_option maxRecDepth 200000 in
theorem gX7_bendAt_X7_bend : GoodIn wsX7_bendAt (wsV RX7 70 RX7 yX7_bend wsX7_bend) := goodIn_app (goodIn_of _ (by decide +kernel)) ggX7_bendAt_X7_bend
theorem dX7_bendAt_0 : decode cX7_bendAt 0 = .ok (.aload_n 0, 1) := by decide +kernel
theorem dX7_bendAt_1 : decode cX7_bendAt 1 = .ok (.iload_n 1, 1) := by decide +kernel
theorem dX7_bendAt_2 : decode cX7_bendAt 2 = .ok (.iload_n 2, 1) := by decide +kernel
theorem dX7_bendAt_3 : decode cX7_bendAt 3 = .ok (.invokevirtual 143, 3) := by decide +kernel
theorem dX7_bendAt_6 : decode cX7_bendAt 6 = .ok (.ifCond .eq 12, 3) := by decide +kernel
theorem dX7_bendAt_9 : decode cX7_bendAt 9 = .ok (.aload_n 0, 1) := by decide +kernel
theorem dX7_bendAt_10 : decode cX7_bendAt 10 = .ok (.iload_n 1, 1) := by decide +kernel
theorem dX7_bendAt_11 : decode cX7_bendAt 11 = .ok (.iload_n 2, 1) := by decide +kernel
theorem dX7_bendAt_12 : decode cX7_bendAt 12 = .ok (.invokevirtual 70, 3) := by decide +kernel
theorem dX7_bendAt_15 : decode cX7_bendAt 15 = .ok (.goto 4, 3) := by decide +kernel
theorem dX7_bendAt_18 : decode cX7_bendAt 18 = .ok (.iconst 0, 1) := by decide +kernel
theorem dX7_bendAt_19 : decode cX7_bendAt 19 = .ok (.ireturn, 1) := by decide +kernel
set_option maxRecDepth 200000 in
theorem ggX7_slanting_X7_of : GoodIn wsX7_slanting wsX7_of := goodIn_r _ [5, 6, 7, 8, 9, 10, 11, 12, 13, 14, 15, 16, 17, 18, 19] rfl (by decide +kernel)
set_option maxRecDepth 200000 in
theorem gX7_slanting_X7_of : GoodIn wsX7_slanting (wsV RX7 37 RX7 yX7_of wsX7_of) := goodIn_app (goodIn_of _ (by decide +kernel)) ggX7_slanting_X7_of
theorem dX7_slanting_0 : decode cX7_slanting 0 = .ok (.iconst 0, 1) := by decide +kernel
theorem dX7_slanting_1 : decode cX7_slanting 1 = .ok (.istore_n 2, 1) := by decide +kernel
theorem dX7_slanting_2 : decode cX7_slanting 2 = .ok (.iconst 0, 1) := by decide +kernel
theorem dX7_slanting_3 : decode cX7_slanting 3 = .ok (.istore_n 3, 1) := by decide +kernel
theorem dX7_slanting_4 : decode cX7_slanting 4 = .ok (.iload_n 3, 1) := by decide +kernel
theorem dX7_slanting_5 : decode cX7_slanting 5 = .ok (.aload_n 0, 1) := by decide +kernel
theorem dX7_slanting_6 : decode cX7_slanting 6 = .ok (.iload_n 1, 1) := by decide +kernel
theorem dX7_slanting_7 : decode cX7_slanting 7 = .ok (.iconst 2, 1) := by decide +kernel
theorem dX7_slanting_8 : decode cX7_slanting 8 = .ok (.invokevirtual 37, 3) := by decide +kernel
theorem dX7_slanting_11 : decode cX7_slanting 11 = .ok (.if_icmp .ge 22, 3) := by decide +kernel
theorem dX7_slanting_14 : decode cX7_slanting 14 = .ok (.iload_n 2, 1) := by decide +kernel
theorem dX7_slanting_15 : decode cX7_slanting 15 = .ok (.aload_n 0, 1) := by decide +kernel
theorem dX7_slanting_16 : decode cX7_slanting 16 = .ok (.iload_n 1, 1) := by decide +kernel
theorem dX7_slanting_17 : decode cX7_slanting 17 = .ok (.iconst 4, 1) := by decide +kernel
theorem dX7_slanting_18 : decode cX7_slanting 18 = .ok (.iload_n 3, 1) := by decide +kernel
theorem dX7_slanting_19 : decode cX7_slanting 19 = .ok (.iadd, 1) := by decide +kernel
theorem dX7_slanting_20 : decode cX7_slanting 20 = .ok (.invokevirtual 37, 3) := by decide +kernel
theorem dX7_slanting_23 : decode cX7_slanting 23 = .ok (.iconst 2, 1) := by decide +kernel
theorem dX7_slanting_24 : decode cX7_slanting 24 = .ok (.irem, 1) := by decide +kernel
theorem dX7_slanting_25 : decode cX7_slanting 25 = .ok (.iadd, 1) := by decide +kernel
theorem dX7_slanting_26 : decode cX7_slanting 26 = .ok (.istore_n 2, 1) := by decide +kernel
theorem dX7_slanting_27 : decode cX7_slanting 27 = .ok (.iinc 3 1, 3) := by decide +kernel
theorem dX7_slanting_30 : decode cX7_slanting 30 = .ok (.goto (-26), 3) := by decide +kernel
theorem dX7_slanting_33 : decode cX7_slanting 33 = .ok (.iload_n 2, 1) := by decide +kernel
theorem dX7_slanting_34 : decode cX7_slanting 34 = .ok (.ireturn, 1) := by decide +kernel
set_option maxRecDepth 200000 in
theorem ggX7_lengthByKinds_X7_knows : GoodIn wsX7_lengthByKinds wsX7_knows := goodIn_r _ [6, 7, 8, 9, 10, 5, 11, 12, 13, 14, 15, 24, 25, 26, 27, 28, 29, 30, 31, 32, 33, 34, 35, 36] rfl (by decide +kernel)
set_option maxRecDepth 200000 in
theorem gX7_lengthByKinds_X7_knows : GoodIn wsX7_lengthByKinds (wsV RX7 146 RX7 yX7_knows wsX7_knows) := goodIn_app (goodIn_of _ (by decide +kernel)) ggX7_lengthByKinds_X7_knows
set_option maxRecDepth 200000 in
theorem ggX7_lengthByKinds_X7_of : GoodIn wsX7_lengthByKinds wsX7_of := goodIn_r _ [19, 12, 24, 25, 26, 27, 28, 29, 30, 31, 32, 33, 34, 35, 36] rfl (by decide +kernel)
set_option maxRecDepth 200000 in
theorem gX7_lengthByKinds_X7_of : GoodIn wsX7_lengthByKinds (wsV RX7 37 RX7 yX7_of wsX7_of) := goodIn_app (goodIn_of _ (by decide +kernel)) ggX7_lengthByKinds_X7_of
set_option maxRecDepth 200000 in
theorem ggX7_lengthByKinds_X7_slanting : GoodIn wsX7_lengthByKinds wsX7_slanting := goodIn_r _ [23, 16, 17, 18, 5, 19, 12, 24, 25, 26, 27, 28, 29, 30, 31, 32, 33, 34, 35, 36] rfl (by decide +kernel)
set_option maxRecDepth 200000 in
theorem gX7_lengthByKinds_X7_slanting : GoodIn wsX7_lengthByKinds (wsV RX7 149 RX7 yX7_slanting wsX7_slanting) := goodIn_app (goodIn_of _ (by decide +kernel)) ggX7_lengthByKinds_X7_slanting
theorem dX7_lengthByKinds_0 : decode cX7_lengthByKinds 0 = .ok (.aload_n 0, 1) := by decide +kernel
theorem dX7_lengthByKinds_1 : decode cX7_lengthByKinds 1 = .ok (.iload_n 1, 1) := by decide +kernel
theorem dX7_lengthByKinds_2 : decode cX7_lengthByKinds 2 = .ok (.invokevirtual 146, 3) := by decide +kernel
theorem dX7_lengthByKinds_5 : decode cX7_lengthByKinds 5 = .ok (.ifCond .eq 30, 3) := by decide +kernel
theorem dX7_lengthByKinds_8 : decode cX7_lengthByKinds 8 = .ok (.aload_n 0, 1) := by decide +kernel
theorem dX7_lengthByKinds_9 : decode cX7_lengthByKinds 9 = .ok (.iload_n 1, 1) := by decide +kernel
theorem dX7_lengthByKinds_10 : decode cX7_lengthByKinds 10 = .ok (.iconst 2, 1) := by decide +kernel
theorem dX7_lengthByKinds_11 : decode cX7_lengthByKinds 11 = .ok (.invokevirtual 37, 3) := by decide +kernel
theorem dX7_lengthByKinds_14 : decode cX7_lengthByKinds 14 = .ok (.aload_n 0, 1) := by decide +kernel
theorem dX7_lengthByKinds_15 : decode cX7_lengthByKinds 15 = .ok (.iload_n 1, 1) := by decide +kernel
theorem dX7_lengthByKinds_16 : decode cX7_lengthByKinds 16 = .ok (.invokevirtual 149, 3) := by decide +kernel
theorem dX7_lengthByKinds_19 : decode cX7_lengthByKinds 19 = .ok (.isub, 1) := by decide +kernel
theorem dX7_lengthByKinds_20 : decode cX7_lengthByKinds 20 = .ok (.i2d, 1) := by decide +kernel
theorem dX7_lengthByKinds_21 : decode cX7_lengthByKinds 21 = .ok (.aload_n 0, 1) := by decide +kernel
theorem dX7_lengthByKinds_22 : decode cX7_lengthByKinds 22 = .ok (.iload_n 1, 1) := by decide +kernel
theorem dX7_lengthByKinds_23 : decode cX7_lengthByKinds 23 = .ok (.invokevirtual 149, 3) := by decide +kernel
theorem dX7_lengthByKinds_26 : decode cX7_lengthByKinds 26 = .ok (.i2d, 1) := by decide +kernel
theorem dX7_lengthByKinds_27 : decode cX7_lengthByKinds 27 = .ok (.ldc2_w 152, 3) := by decide +kernel
theorem dX7_lengthByKinds_30 : decode cX7_lengthByKinds 30 = .ok (.dmul, 1) := by decide +kernel
theorem dX7_lengthByKinds_31 : decode cX7_lengthByKinds 31 = .ok (.dadd, 1) := by decide +kernel
theorem dX7_lengthByKinds_32 : decode cX7_lengthByKinds 32 = .ok (.goto 4, 3) := by decide +kernel
theorem dX7_lengthByKinds_35 : decode cX7_lengthByKinds 35 = .ok (.dconst 0, 1) := by decide +kernel
theorem dX7_lengthByKinds_36 : decode cX7_lengthByKinds 36 = .ok (.dreturn, 1) := by decide +kernel
set_option maxRecDepth 200000 in
theorem ggX7_lengthBySteps_X7_knows : GoodIn wsX7_lengthBySteps wsX7_knows := goodIn_r _ [6, 7, 8, 9, 10, 5, 11, 12, 13, 14, 15, 20, 21, 22, 23, 24, 25, 26, 27, 28, 29, 30, 31, 32] rfl (by decide +kernel)
set_option maxRecDepth 200000 in
theorem gX7_lengthBySteps_X7_knows : GoodIn wsX7_lengthBySteps (wsV RX7 146 RX7 yX7_knows wsX7_knows) := goodIn_app (goodIn_of _ (by decide +kernel)) ggX7_lengthBySteps_X7_knows
set_option maxRecDepth 200000 in
theorem ggX7_lengthBySteps_X7_of : GoodIn wsX7_lengthBySteps wsX7_of := goodIn_r _ [19, 12, 20, 21, 22, 23, 24, 25, 26, 27, 28, 29, 30, 31, 32] rfl (by decide +kernel)
set_option maxRecDepth 200000 in
theorem gX7_lengthBySteps_X7_of : GoodIn wsX7_lengthBySteps (wsV RX7 37 RX7 yX7_of wsX7_of) := goodIn_app (goodIn_of _ (by decide +kernel)) ggX7_lengthBySteps_X7_of
theorem dX7_lengthBySteps_0 : decode cX7_lengthBySteps 0 = .ok (.dconst 0, 1) := by decide +kernel
theorem dX7_lengthBySteps_1 : decode cX7_lengthBySteps 1 = .ok (.dstore_n 2, 1) := by decide +kernel
theorem dX7_lengthBySteps_2 : decode cX7_lengthBySteps 2 = .ok (.aload_n 0, 1) := by decide +kernel
theorem dX7_lengthBySteps_3 : decode cX7_lengthBySteps 3 = .ok (.iload_n 1, 1) := by decide +kernel
theorem dX7_lengthBySteps_4 : decode cX7_lengthBySteps 4 = .ok (.invokevirtual 146, 3) := by decide +kernel
theorem dX7_lengthBySteps_7 : decode cX7_lengthBySteps 7 = .ok (.istore 4, 2) := by decide +kernel
theorem dX7_lengthBySteps_9 : decode cX7_lengthBySteps 9 = .ok (.iconst 0, 1) := by decide +kernel
theorem dX7_lengthBySteps_10 : decode cX7_lengthBySteps 10 = .ok (.istore 5, 2) := by decide +kernel
theorem dX7_lengthBySteps_12 : decode cX7_lengthBySteps 12 = .ok (.iload 5, 2) := by decide +kernel
theorem dX7_lengthBySteps_14 : decode cX7_lengthBySteps 14 = .ok (.iload 4, 2) := by decide +kernel
theorem dX7_lengthBySteps_16 : decode cX7_lengthBySteps 16 = .ok (.ifCond .eq 12, 3) := by decide +kernel
theorem dX7_lengthBySteps_19 : decode cX7_lengthBySteps 19 = .ok (.aload_n 0, 1) := by decide +kernel
theorem dX7_lengthBySteps_20 : decode cX7_lengthBySteps 20 = .ok (.iload_n 1, 1) := by decide +kernel
theorem dX7_lengthBySteps_21 : decode cX7_lengthBySteps 21 = .ok (.iconst 2, 1) := by decide +kernel
theorem dX7_lengthBySteps_22 : decode cX7_lengthBySteps 22 = .ok (.invokevirtual 37, 3) := by decide +kernel
theorem dX7_lengthBySteps_25 : decode cX7_lengthBySteps 25 = .ok (.goto 4, 3) := by decide +kernel
theorem dX7_lengthBySteps_28 : decode cX7_lengthBySteps 28 = .ok (.iconst 0, 1) := by decide +kernel
theorem dX7_lengthBySteps_29 : decode cX7_lengthBySteps 29 = .ok (.if_icmp .ge 34, 3) := by decide +kernel
theorem dX7_lengthBySteps_32 : decode cX7_lengthBySteps 32 = .ok (.dload_n 2, 1) := by decide +kernel
theorem dX7_lengthBySteps_33 : decode cX7_lengthBySteps 33 = .ok (.aload_n 0, 1) := by decide +kernel
theorem dX7_lengthBySteps_34 : decode cX7_lengthBySteps 34 = .ok (.iload_n 1, 1) := by decide +kernel
theorem dX7_lengthBySteps_35 : decode cX7_lengthBySteps 35 = .ok (.iconst 4, 1) := by decide +kernel
theorem dX7_lengthBySteps_36 : decode cX7_lengthBySteps 36 = .ok (.iload 5, 2) := by decide +kernel
theorem dX7_lengthBySteps_38 : decode cX7_lengthBySteps 38 = .ok (.iadd, 1) := by decide +kernel
theorem dX7_lengthBySteps_39 : decode cX7_lengthBySteps 39 = .ok (.invokevirtual 37, 3) := by decide +kernel
theorem dX7_lengthBySteps_42 : decode cX7_lengthBySteps 42 = .ok (.iconst 2, 1) := by decide +kernel
theorem dX7_lengthBySteps_43 : decode cX7_lengthBySteps 43 = .ok (.irem, 1) := by decide +kernel
theorem dX7_lengthBySteps_44 : decode cX7_lengthBySteps 44 = .ok (.iconst 1, 1) := by decide +kernel
theorem dX7_lengthBySteps_45 : decode cX7_lengthBySteps 45 = .ok (.if_icmp .ne 9, 3) := by decide +kernel
theorem dX7_lengthBySteps_48 : decode cX7_lengthBySteps 48 = .ok (.ldc2_w 152, 3) := by decide +kernel
theorem dX7_lengthBySteps_51 : decode cX7_lengthBySteps 51 = .ok (.goto 4, 3) := by decide +kernel
theorem dX7_lengthBySteps_54 : decode cX7_lengthBySteps 54 = .ok (.dconst 1, 1) := by decide +kernel
theorem dX7_lengthBySteps_55 : decode cX7_lengthBySteps 55 = .ok (.dadd, 1) := by decide +kernel
theorem dX7_lengthBySteps_56 : decode cX7_lengthBySteps 56 = .ok (.dstore_n 2, 1) := by decide +kernel
theorem dX7_lengthBySteps_57 : decode cX7_lengthBySteps 57 = .ok (.iinc 5 1, 3) := by decide +kernel
theorem dX7_lengthBySteps_60 : decode cX7_lengthBySteps 60 = .ok (.goto (-48), 3) := by decide +kernel
theorem dX7_lengthBySteps_63 : decode cX7_lengthBySteps 63 = .ok (.dload_n 2, 1) := by decide +kernel
theorem dX7_lengthBySteps_64 : decode cX7_lengthBySteps 64 = .ok (.dreturn, 1) := by decide +kernel
theorem dX7_gap_0 : decode cX7_gap 0 = .ok (.aload_n 0, 1) := by decide +kernel
theorem dX7_gap_1 : decode cX7_gap 1 = .ok (.iconst 0, 1) := by decide +kernel
theorem dX7_gap_2 : decode cX7_gap 2 = .ok (.putfield 22, 3) := by decide +kernel
theorem dX7_gap_5 : decode cX7_gap 5 = .ok (.aload_n 0, 1) := by decide +kernel
theorem dX7_gap_6 : decode cX7_gap 6 = .ok (.getfield 7, 3) := by decide +kernel
theorem dX7_gap_9 : decode cX7_gap 9 = .ok (.iconst 1, 1) := by decide +kernel
theorem dX7_gap_10 : decode cX7_gap 10 = .ok (.iaload, 1) := by decide +kernel
theorem dX7_gap_11 : decode cX7_gap 11 = .ok (.ireturn, 1) := by decide +kernel
set_option maxRecDepth 200000 in
theorem ggX7_labels_X7_labelled : GoodIn wsX7_labels wsX7_labelled := goodIn_r _ [6, 7, 8, 9, 10, 5, 11, 12, 13, 14, 15, 16, 17, 18, 19, 20, 21, 22, 23, 24] rfl (by decide +kernel)
set_option maxRecDepth 200000 in
theorem gX7_labels_X7_labelled : GoodIn wsX7_labels (wsV RX7 114 RX7 yX7_labelled wsX7_labelled) := goodIn_app (goodIn_of _ (by decide +kernel)) ggX7_labels_X7_labelled
theorem dX7_labels_0 : decode cX7_labels 0 = .ok (.aload_n 0, 1) := by decide +kernel
theorem dX7_labels_1 : decode cX7_labels 1 = .ok (.iconst 0, 1) := by decide +kernel
theorem dX7_labels_2 : decode cX7_labels 2 = .ok (.putfield 22, 3) := by decide +kernel
theorem dX7_labels_5 : decode cX7_labels 5 = .ok (.aload_n 0, 1) := by decide +kernel
theorem dX7_labels_6 : decode cX7_labels 6 = .ok (.invokevirtual 114, 3) := by decide +kernel
theorem dX7_labels_9 : decode cX7_labels 9 = .ok (.ireturn, 1) := by decide +kernel
set_option maxRecDepth 200000 in
theorem ggX7_labelOf_X7_look : GoodIn wsX7_labelOf wsX7_look := goodIn_r _ [5, 6, 7, 8, 9, 4, 10, 11, 12, 13, 14, 15, 16, 17, 18, 19, 20, 21, 22, 23, 24, 25, 26, 27, 28, 29, 30, 31, 32, 33, 34, 35] rfl (by decide +kernel)
set_option maxRecDepth 200000 in
theorem gX7_labelOf_X7_look : GoodIn wsX7_labelOf (wsV RX7 140 RX7 yX7_look wsX7_look) := goodIn_app (goodIn_of _ (by decide +kernel)) ggX7_labelOf_X7_look
theorem dX7_labelOf_0 : decode cX7_labelOf 0 = .ok (.aload_n 0, 1) := by decide +kernel
theorem dX7_labelOf_1 : decode cX7_labelOf 1 = .ok (.iload_n 1, 1) := by decide +kernel
theorem dX7_labelOf_2 : decode cX7_labelOf 2 = .ok (.iconst 3, 1) := by decide +kernel
theorem dX7_labelOf_3 : decode cX7_labelOf 3 = .ok (.invokevirtual 140, 3) := by decide +kernel
theorem dX7_labelOf_6 : decode cX7_labelOf 6 = .ok (.ireturn, 1) := by decide +kernel
set_option maxRecDepth 200000 in
theorem ggX7_labelEnd_X7_of : GoodIn wsX7_labelEnd wsX7_of := goodIn_r _ [5, 6, 24, 25, 26, 27, 28, 29, 30, 31, 32, 33, 34, 35, 36] rfl (by decide +kernel)
set_option maxRecDepth 200000 in
theorem gX7_labelEnd_X7_of : GoodIn wsX7_labelEnd (wsV RX7 37 RX7 yX7_of wsX7_of) := goodIn_app (goodIn_of _ (by decide +kernel)) ggX7_labelEnd_X7_of
set_option maxRecDepth 200000 in
theorem ggX7_labelEnd_X7_size : GoodIn wsX7_labelEnd wsX7_size := goodIn_r _ [10, 1, 2, 3, 4, 5, 6, 24, 25, 26, 27, 28, 29, 30, 31, 32, 33, 34, 35, 36] rfl (by decide +kernel)
set_option maxRecDepth 200000 in
theorem gX7_labelEnd_X7_size : GoodIn wsX7_labelEnd (wsV RX7 67 RX7 yX7_size wsX7_size) := goodIn_app (goodIn_of _ (by decide +kernel)) ggX7_labelEnd_X7_size
set_option maxRecDepth 200000 in
theorem ggX7_labelEnd_X7_at : GoodIn wsX7_labelEnd wsX7_at := goodIn_r _ [14, 1, 2, 3, 4, 5, 6, 15, 16, 17, 18, 19, 20, 21, 22, 23, 24, 25, 26, 27, 28, 29, 30, 31, 32, 33, 34, 35, 36] rfl (by decide +kernel)
set_option maxRecDepth 200000 in
theorem gX7_labelEnd_X7_at : GoodIn wsX7_labelEnd (wsV RX7 41 RX7 yX7_at wsX7_at) := goodIn_app (goodIn_of _ (by decide +kernel)) ggX7_labelEnd_X7_at
theorem dX7_labelEnd_0 : decode cX7_labelEnd 0 = .ok (.aload_n 0, 1) := by decide +kernel
theorem dX7_labelEnd_1 : decode cX7_labelEnd 1 = .ok (.iload_n 1, 1) := by decide +kernel
theorem dX7_labelEnd_2 : decode cX7_labelEnd 2 = .ok (.aload_n 0, 1) := by decide +kernel
theorem dX7_labelEnd_3 : decode cX7_labelEnd 3 = .ok (.iload_n 1, 1) := by decide +kernel
theorem dX7_labelEnd_4 : decode cX7_labelEnd 4 = .ok (.iconst 3, 1) := by decide +kernel
theorem dX7_labelEnd_5 : decode cX7_labelEnd 5 = .ok (.invokevirtual 37, 3) := by decide +kernel
theorem dX7_labelEnd_8 : decode cX7_labelEnd 8 = .ok (.aload_n 0, 1) := by decide +kernel
theorem dX7_labelEnd_9 : decode cX7_labelEnd 9 = .ok (.iload_n 1, 1) := by decide +kernel
theorem dX7_labelEnd_10 : decode cX7_labelEnd 10 = .ok (.invokevirtual 67, 3) := by decide +kernel
theorem dX7_labelEnd_13 : decode cX7_labelEnd 13 = .ok (.iadd, 1) := by decide +kernel
theorem dX7_labelEnd_14 : decode cX7_labelEnd 14 = .ok (.iconst 1, 1) := by decide +kernel
theorem dX7_labelEnd_15 : decode cX7_labelEnd 15 = .ok (.isub, 1) := by decide +kernel
theorem dX7_labelEnd_16 : decode cX7_labelEnd 16 = .ok (.invokevirtual 41, 3) := by decide +kernel
theorem dX7_labelEnd_19 : decode cX7_labelEnd 19 = .ok (.ireturn, 1) := by decide +kernel
set_option maxRecDepth 200000 in
theorem ggX7_isLeft_X7_of : GoodIn wsX7_isLeft wsX7_of := goodIn_r _ [5, 6, 28, 29, 30, 31, 32, 33, 34, 35, 36, 37, 38, 39, 40] rfl (by decide +kernel)
set_option maxRecDepth 200000 in
theorem gX7_isLeft_X7_of : GoodIn wsX7_isLeft (wsV RX7 37 RX7 yX7_of wsX7_of) := goodIn_app (goodIn_of _ (by decide +kernel)) ggX7_isLeft_X7_of
set_option maxRecDepth 200000 in
theorem ggX7_isLeft_X7_labelEnd : GoodIn wsX7_isLeft wsX7_labelEnd := goodIn_r _ [10, 1, 2, 3, 4, 5, 6, 11, 12, 13, 14, 15, 16, 17, 18, 19, 20, 21, 22, 23, 24, 25, 26, 27, 28, 29, 30, 31, 32, 33, 34, 35, 36, 37, 38, 39, 40] rfl (by decide +kernel)
set_option maxRecDepth 200000 in
theorem gX7_isLeft_X7_labelEnd : GoodIn wsX7_isLeft (wsV RX7 154 RX7 yX7_labelEnd wsX7_labelEnd) := goodIn_app (goodIn_of _ (by decide +kernel)) ggX7_isLeft_X7_labelEnd
set_option maxRecDepth 200000 in
theorem ggX7_isLeft_X7_at : GoodIn wsX7_isLeft wsX7_at := goodIn_r _ [18, 1, 2, 3, 4, 5, 6, 19, 20, 21, 22, 23, 24, 25, 26, 27, 28, 29, 30, 31, 32, 33, 34, 35, 36, 37, 38, 39, 40] rfl (by decide +kernel)
set_option maxRecDepth 200000 in
theorem gX7_isLeft_X7_at : GoodIn wsX7_isLeft (wsV RX7 41 RX7 yX7_at wsX7_at) := goodIn_app (goodIn_of _ (by decide +kernel)) ggX7_isLeft_X7_at
theorem dX7_isLeft_0 : decode cX7_isLeft 0 = .ok (.aload_n 0, 1) := by decide +kernel
theorem dX7_isLeft_1 : decode cX7_isLeft 1 = .ok (.iload_n 1, 1) := by decide +kernel
theorem dX7_isLeft_2 : decode cX7_isLeft 2 = .ok (.iconst 3, 1) := by decide +kernel
theorem dX7_isLeft_3 : decode cX7_isLeft 3 = .ok (.invokevirtual 37, 3) := by decide +kernel
theorem dX7_isLeft_6 : decode cX7_isLeft 6 = .ok (.iconst (-1), 1) := by decide +kernel
theorem dX7_isLeft_7 : decode cX7_isLeft 7 = .ok (.if_icmp .eq 32, 3) := by decide +kernel
theorem dX7_isLeft_10 : decode cX7_isLeft 10 = .ok (.aload_n 0, 1) := by decide +kernel
theorem dX7_isLeft_11 : decode cX7_isLeft 11 = .ok (.iload_n 1, 1) := by decide +kernel
theorem dX7_isLeft_12 : decode cX7_isLeft 12 = .ok (.invokevirtual 154, 3) := by decide +kernel
theorem dX7_isLeft_15 : decode cX7_isLeft 15 = .ok (.bipush 24, 2) := by decide +kernel
theorem dX7_isLeft_17 : decode cX7_isLeft 17 = .ok (.irem, 1) := by decide +kernel
theorem dX7_isLeft_18 : decode cX7_isLeft 18 = .ok (.aload_n 0, 1) := by decide +kernel
theorem dX7_isLeft_19 : decode cX7_isLeft 19 = .ok (.iload_n 1, 1) := by decide +kernel
theorem dX7_isLeft_20 : decode cX7_isLeft 20 = .ok (.aload_n 0, 1) := by decide +kernel
theorem dX7_isLeft_21 : decode cX7_isLeft 21 = .ok (.iload_n 1, 1) := by decide +kernel
theorem dX7_isLeft_22 : decode cX7_isLeft 22 = .ok (.iconst 3, 1) := by decide +kernel
theorem dX7_isLeft_23 : decode cX7_isLeft 23 = .ok (.invokevirtual 37, 3) := by decide +kernel
theorem dX7_isLeft_26 : decode cX7_isLeft 26 = .ok (.invokevirtual 41, 3) := by decide +kernel
theorem dX7_isLeft_29 : decode cX7_isLeft 29 = .ok (.bipush 24, 2) := by decide +kernel
theorem dX7_isLeft_31 : decode cX7_isLeft 31 = .ok (.irem, 1) := by decide +kernel
theorem dX7_isLeft_32 : decode cX7_isLeft 32 = .ok (.if_icmp .ge 7, 3) := by decide +kernel
theorem dX7_isLeft_35 : decode cX7_isLeft 35 = .ok (.iconst 1, 1) := by decide +kernel
theorem dX7_isLeft_36 : decode cX7_isLeft 36 = .ok (.goto 4, 3) := by decide +kernel
theorem dX7_isLeft_39 : decode cX7_isLeft 39 = .ok (.iconst 0, 1) := by decide +kernel
theorem dX7_isLeft_40 : decode cX7_isLeft 40 = .ok (.ireturn, 1) := by decide +kernel
set_option maxRecDepth 200000 in
theorem ggX7_isTurned_X7_knows : GoodIn wsX7_isTurned wsX7_knows := goodIn_r _ [5, 6, 7, 8, 9, 4, 10, 11, 12, 13, 14, 41, 42, 43, 44, 45, 46, 47, 48, 49, 50, 51, 52, 53] rfl (by decide +kernel)
set_option maxRecDepth 200000 in
theorem gX7_isTurned_X7_knows : GoodIn wsX7_isTurned (wsV RX7 146 RX7 yX7_knows wsX7_knows) := goodIn_app (goodIn_of _ (by decide +kernel)) ggX7_isTurned_X7_knows
set_option maxRecDepth 200000 in
theorem ggX7_isTurned_X7_isLeft : GoodIn wsX7_isTurned wsX7_isLeft := goodIn_r _ [18, 19, 20, 21, 4, 22, 11, 23, 24, 25, 26, 27, 28, 29, 30, 31, 32, 33, 34, 35, 36, 37, 12, 13, 14, 38, 39, 40, 41, 42, 43, 44, 45, 46, 47, 48, 49, 50, 51, 52, 53] rfl (by decide +kernel)
set_option maxRecDepth 200000 in
theorem gX7_isTurned_X7_isLeft : GoodIn wsX7_isTurned (wsV RX7 157 RX7 yX7_isLeft wsX7_isLeft) := goodIn_app (goodIn_of _ (by decide +kernel)) ggX7_isTurned_X7_isLeft
theorem dX7_isTurned_0 : decode cX7_isTurned 0 = .ok (.aload_n 0, 1) := by decide +kernel
theorem dX7_isTurned_1 : decode cX7_isTurned 1 = .ok (.iload_n 1, 1) := by decide +kernel
theorem dX7_isTurned_2 : decode cX7_isTurned 2 = .ok (.invokevirtual 146, 3) := by decide +kernel
theorem dX7_isTurned_5 : decode cX7_isTurned 5 = .ok (.ifCond .eq 15, 3) := by decide +kernel
theorem dX7_isTurned_8 : decode cX7_isTurned 8 = .ok (.aload_n 0, 1) := by decide +kernel
theorem dX7_isTurned_9 : decode cX7_isTurned 9 = .ok (.iload_n 1, 1) := by decide +kernel
theorem dX7_isTurned_10 : decode cX7_isTurned 10 = .ok (.invokevirtual 157, 3) := by decide +kernel
theorem dX7_isTurned_13 : decode cX7_isTurned 13 = .ok (.ifCond .eq 7, 3) := by decide +kernel
theorem dX7_isTurned_16 : decode cX7_isTurned 16 = .ok (.iconst 1, 1) := by decide +kernel
theorem dX7_isTurned_17 : decode cX7_isTurned 17 = .ok (.goto 4, 3) := by decide +kernel
theorem dX7_isTurned_20 : decode cX7_isTurned 20 = .ok (.iconst 0, 1) := by decide +kernel
theorem dX7_isTurned_21 : decode cX7_isTurned 21 = .ok (.ireturn, 1) := by decide +kernel
set_option maxRecDepth 200000 in
theorem ggX7_readFrom_X7_knows : GoodIn wsX7_readFrom wsX7_knows := goodIn_r _ [5, 6, 7, 8, 9, 4, 10, 11, 12, 13, 14, 41, 42, 43, 44, 45, 46, 47, 48, 49, 50, 51, 52, 53] rfl (by decide +kernel)
set_option maxRecDepth 200000 in
theorem gX7_readFrom_X7_knows : GoodIn wsX7_readFrom (wsV RX7 146 RX7 yX7_knows wsX7_knows) := goodIn_app (goodIn_of _ (by decide +kernel)) ggX7_readFrom_X7_knows
set_option maxRecDepth 200000 in
theorem ggX7_readFrom_X7_of : GoodIn wsX7_readFrom wsX7_of := goodIn_r _ [18, 11, 41, 42, 43, 44, 45, 46, 47, 48, 49, 50, 51, 52, 53] rfl (by decide +kernel)
set_option maxRecDepth 200000 in
theorem gX7_readFrom_X7_of : GoodIn wsX7_readFrom (wsV RX7 37 RX7 yX7_of wsX7_of) := goodIn_app (goodIn_of _ (by decide +kernel)) ggX7_readFrom_X7_of
set_option maxRecDepth 200000 in
theorem ggX7_readFrom_X7_isLeft : GoodIn wsX7_readFrom wsX7_isLeft := goodIn_r _ [22, 15, 16, 17, 4, 18, 11, 23, 24, 25, 26, 27, 28, 29, 30, 31, 32, 33, 34, 35, 36, 37, 12, 13, 14, 38, 39, 40, 41, 42, 43, 44, 45, 46, 47, 48, 49, 50, 51, 52, 53] rfl (by decide +kernel)
set_option maxRecDepth 200000 in
theorem gX7_readFrom_X7_isLeft : GoodIn wsX7_readFrom (wsV RX7 157 RX7 yX7_isLeft wsX7_isLeft) := goodIn_app (goodIn_of _ (by decide +kernel)) ggX7_readFrom_X7_isLeft
set_option maxRecDepth 200000 in
theorem ggX7_readFrom_X7_labelEnd : GoodIn wsX7_readFrom wsX7_labelEnd := goodIn_r _ [26, 15, 16, 17, 4, 18, 11, 27, 28, 29, 30, 31, 32, 33, 34, 35, 36, 37, 12, 13, 14, 38, 39, 40, 41, 42, 43, 44, 45, 46, 47, 48, 49, 50, 51, 52, 53] rfl (by decide +kernel)
set_option maxRecDepth 200000 in
theorem gX7_readFrom_X7_labelEnd : GoodIn wsX7_readFrom (wsV RX7 154 RX7 yX7_labelEnd wsX7_labelEnd) := goodIn_app (goodIn_of _ (by decide +kernel)) ggX7_readFrom_X7_labelEnd
set_option maxRecDepth 200000 in
theorem ggX7_readFrom_X7_at : GoodIn wsX7_readFrom wsX7_at := goodIn_r _ [34, 15, 16, 17, 4, 18, 11, 35, 36, 37, 12, 13, 14, 38, 39, 40, 41, 42, 43, 44, 45, 46, 47, 48, 49, 50, 51, 52, 53] rfl (by decide +kernel)
set_option maxRecDepth 200000 in
theorem gX7_readFrom_X7_at : GoodIn wsX7_readFrom (wsV RX7 41 RX7 yX7_at wsX7_at) := goodIn_app (goodIn_of _ (by decide +kernel)) ggX7_readFrom_X7_at
theorem dX7_readFrom_0 : decode cX7_readFrom 0 = .ok (.aload_n 0, 1) := by decide +kernel
theorem dX7_readFrom_1 : decode cX7_readFrom 1 = .ok (.iload_n 1, 1) := by decide +kernel
theorem dX7_readFrom_2 : decode cX7_readFrom 2 = .ok (.invokevirtual 146, 3) := by decide +kernel
theorem dX7_readFrom_5 : decode cX7_readFrom 5 = .ok (.ifCond .ne 5, 3) := by decide +kernel
theorem dX7_readFrom_8 : decode cX7_readFrom 8 = .ok (.iconst 0, 1) := by decide +kernel
theorem dX7_readFrom_9 : decode cX7_readFrom 9 = .ok (.ireturn, 1) := by decide +kernel
theorem dX7_readFrom_10 : decode cX7_readFrom 10 = .ok (.aload_n 0, 1) := by decide +kernel
theorem dX7_readFrom_11 : decode cX7_readFrom 11 = .ok (.iload_n 1, 1) := by decide +kernel
theorem dX7_readFrom_12 : decode cX7_readFrom 12 = .ok (.iconst 3, 1) := by decide +kernel
theorem dX7_readFrom_13 : decode cX7_readFrom 13 = .ok (.invokevirtual 37, 3) := by decide +kernel
theorem dX7_readFrom_16 : decode cX7_readFrom 16 = .ok (.iconst (-1), 1) := by decide +kernel
theorem dX7_readFrom_17 : decode cX7_readFrom 17 = .ok (.if_icmp .ne 7, 3) := by decide +kernel
theorem dX7_readFrom_20 : decode cX7_readFrom 20 = .ok (.iconst (-1), 1) := by decide +kernel
theorem dX7_readFrom_21 : decode cX7_readFrom 21 = .ok (.goto 30, 3) := by decide +kernel
theorem dX7_readFrom_24 : decode cX7_readFrom 24 = .ok (.aload_n 0, 1) := by decide +kernel
theorem dX7_readFrom_25 : decode cX7_readFrom 25 = .ok (.iload_n 1, 1) := by decide +kernel
theorem dX7_readFrom_26 : decode cX7_readFrom 26 = .ok (.invokevirtual 157, 3) := by decide +kernel
theorem dX7_readFrom_29 : decode cX7_readFrom 29 = .ok (.ifCond .eq 11, 3) := by decide +kernel
theorem dX7_readFrom_32 : decode cX7_readFrom 32 = .ok (.aload_n 0, 1) := by decide +kernel
theorem dX7_readFrom_33 : decode cX7_readFrom 33 = .ok (.iload_n 1, 1) := by decide +kernel
theorem dX7_readFrom_34 : decode cX7_readFrom 34 = .ok (.invokevirtual 154, 3) := by decide +kernel
theorem dX7_readFrom_37 : decode cX7_readFrom 37 = .ok (.goto 14, 3) := by decide +kernel
theorem dX7_readFrom_40 : decode cX7_readFrom 40 = .ok (.aload_n 0, 1) := by decide +kernel
theorem dX7_readFrom_41 : decode cX7_readFrom 41 = .ok (.iload_n 1, 1) := by decide +kernel
theorem dX7_readFrom_42 : decode cX7_readFrom 42 = .ok (.aload_n 0, 1) := by decide +kernel
theorem dX7_readFrom_43 : decode cX7_readFrom 43 = .ok (.iload_n 1, 1) := by decide +kernel
theorem dX7_readFrom_44 : decode cX7_readFrom 44 = .ok (.iconst 3, 1) := by decide +kernel
theorem dX7_readFrom_45 : decode cX7_readFrom 45 = .ok (.invokevirtual 37, 3) := by decide +kernel
theorem dX7_readFrom_48 : decode cX7_readFrom 48 = .ok (.invokevirtual 41, 3) := by decide +kernel
theorem dX7_readFrom_51 : decode cX7_readFrom 51 = .ok (.ireturn, 1) := by decide +kernel
set_option maxRecDepth 200000 in
theorem ggX7_sizeOf_X7_knows : GoodIn wsX7_sizeOf wsX7_knows := goodIn_r _ [5, 6, 7, 8, 9, 4, 10, 11, 12, 13, 14, 23, 24, 25, 26, 27, 28, 29, 30, 31, 32, 33, 34, 35] rfl (by decide +kernel)
set_option maxRecDepth 200000 in
theorem gX7_sizeOf_X7_knows : GoodIn wsX7_sizeOf (wsV RX7 146 RX7 yX7_knows wsX7_knows) := goodIn_app (goodIn_of _ (by decide +kernel)) ggX7_sizeOf_X7_knows
set_option maxRecDepth 200000 in
theorem ggX7_sizeOf_X7_size : GoodIn wsX7_sizeOf wsX7_size := goodIn_r _ [18, 19, 20, 21, 4, 22, 11, 23, 24, 25, 26, 27, 28, 29, 30, 31, 32, 33, 34, 35] rfl (by decide +kernel)
set_option maxRecDepth 200000 in
theorem gX7_sizeOf_X7_size : GoodIn wsX7_sizeOf (wsV RX7 67 RX7 yX7_size wsX7_size) := goodIn_app (goodIn_of _ (by decide +kernel)) ggX7_sizeOf_X7_size
theorem dX7_sizeOf_0 : decode cX7_sizeOf 0 = .ok (.aload_n 0, 1) := by decide +kernel
theorem dX7_sizeOf_1 : decode cX7_sizeOf 1 = .ok (.iload_n 1, 1) := by decide +kernel
theorem dX7_sizeOf_2 : decode cX7_sizeOf 2 = .ok (.invokevirtual 146, 3) := by decide +kernel
theorem dX7_sizeOf_5 : decode cX7_sizeOf 5 = .ok (.ifCond .eq 11, 3) := by decide +kernel
theorem dX7_sizeOf_8 : decode cX7_sizeOf 8 = .ok (.aload_n 0, 1) := by decide +kernel
theorem dX7_sizeOf_9 : decode cX7_sizeOf 9 = .ok (.iload_n 1, 1) := by decide +kernel
theorem dX7_sizeOf_10 : decode cX7_sizeOf 10 = .ok (.invokevirtual 67, 3) := by decide +kernel
theorem dX7_sizeOf_13 : decode cX7_sizeOf 13 = .ok (.goto 4, 3) := by decide +kernel
theorem dX7_sizeOf_16 : decode cX7_sizeOf 16 = .ok (.iconst 0, 1) := by decide +kernel
theorem dX7_sizeOf_17 : decode cX7_sizeOf 17 = .ok (.ireturn, 1) := by decide +kernel
set_option maxRecDepth 200000 in
theorem ggX7_bendOf_X7_has : GoodIn wsX7_bendOf wsX7_has := goodIn_r _ [5, 6, 7, 8, 9, 4, 10, 11, 12, 13, 14, 15, 16, 17, 18, 59, 60, 61, 62, 63, 64, 65, 66, 67, 68, 69, 70, 71] rfl (by decide +kernel)
set_option maxRecDepth 200000 in
theorem gX7_bendOf_X7_has : GoodIn wsX7_bendOf (wsV RX7 143 RX7 yX7_has wsX7_has) := goodIn_app (goodIn_of _ (by decide +kernel)) ggX7_bendOf_X7_has
set_option maxRecDepth 200000 in
theorem ggX7_bendOf_X7_isPlace : GoodIn wsX7_bendOf wsX7_isPlace := goodIn_r _ [22, 23, 24, 25, 4, 26, 15, 16, 17, 18, 11, 27, 28, 29, 30, 31, 32, 33, 34, 35, 36, 37, 38, 39, 40, 41, 12, 13, 14, 42, 43, 44, 59, 60, 61, 62, 63, 64, 65, 66, 67, 68, 69, 70, 71] rfl (by decide +kernel)
set_option maxRecDepth 200000 in
theorem gX7_bendOf_X7_isPlace : GoodIn wsX7_bendOf (wsV RX7 80 RX7 yX7_isPlace wsX7_isPlace) := goodIn_app (goodIn_of _ (by decide +kernel)) ggX7_bendOf_X7_isPlace
set_option maxRecDepth 200000 in
theorem ggX7_bendOf_X7_bends : GoodIn wsX7_bendOf wsX7_bends := goodIn_r _ [48, 23, 24, 25, 4, 26, 15, 16, 17, 18, 11, 12, 13, 14, 49, 50, 51, 52, 53, 54, 55, 56, 57, 58, 27, 28, 29, 30, 31, 32, 33, 34, 35, 36, 37, 38, 39, 40, 41, 42, 43, 44, 59, 60, 61, 62, 63, 64, 65, 66, 67, 68, 69, 70, 71] rfl (by decide +kernel)
set_option maxRecDepth 200000 in
theorem gX7_bendOf_X7_bends : GoodIn wsX7_bendOf (wsV RX7 83 RX7 yX7_bends wsX7_bends) := goodIn_app (goodIn_of _ (by decide +kernel)) ggX7_bendOf_X7_bends
theorem dX7_bendOf_0 : decode cX7_bendOf 0 = .ok (.aload_n 0, 1) := by decide +kernel
theorem dX7_bendOf_1 : decode cX7_bendOf 1 = .ok (.iload_n 1, 1) := by decide +kernel
theorem dX7_bendOf_2 : decode cX7_bendOf 2 = .ok (.iload_n 2, 1) := by decide +kernel
theorem dX7_bendOf_3 : decode cX7_bendOf 3 = .ok (.invokevirtual 143, 3) := by decide +kernel
theorem dX7_bendOf_6 : decode cX7_bendOf 6 = .ok (.ifCond .ne 5, 3) := by decide +kernel
theorem dX7_bendOf_9 : decode cX7_bendOf 9 = .ok (.iconst 0, 1) := by decide +kernel
theorem dX7_bendOf_10 : decode cX7_bendOf 10 = .ok (.ireturn, 1) := by decide +kernel
theorem dX7_bendOf_11 : decode cX7_bendOf 11 = .ok (.aload_n 0, 1) := by decide +kernel
theorem dX7_bendOf_12 : decode cX7_bendOf 12 = .ok (.iload_n 1, 1) := by decide +kernel
theorem dX7_bendOf_13 : decode cX7_bendOf 13 = .ok (.iload_n 2, 1) := by decide +kernel
theorem dX7_bendOf_14 : decode cX7_bendOf 14 = .ok (.invokevirtual 80, 3) := by decide +kernel
theorem dX7_bendOf_17 : decode cX7_bendOf 17 = .ok (.ifCond .eq 12, 3) := by decide +kernel
theorem dX7_bendOf_20 : decode cX7_bendOf 20 = .ok (.aload_n 0, 1) := by decide +kernel
theorem dX7_bendOf_21 : decode cX7_bendOf 21 = .ok (.iload_n 1, 1) := by decide +kernel
theorem dX7_bendOf_22 : decode cX7_bendOf 22 = .ok (.iload_n 2, 1) := by decide +kernel
theorem dX7_bendOf_23 : decode cX7_bendOf 23 = .ok (.invokevirtual 83, 3) := by decide +kernel
theorem dX7_bendOf_26 : decode cX7_bendOf 26 = .ok (.goto 4, 3) := by decide +kernel
theorem dX7_bendOf_29 : decode cX7_bendOf 29 = .ok (.iconst (-1), 1) := by decide +kernel
theorem dX7_bendOf_30 : decode cX7_bendOf 30 = .ok (.ireturn, 1) := by decide +kernel
set_option maxRecDepth 200000 in
theorem ggX7_whyNotLabelled_X7_has : GoodIn wsX7_whyNotLabelled wsX7_has := goodIn_r _ [5, 6, 7, 8, 9, 4, 10, 11, 12, 13, 14, 15, 16, 17, 18, 75, 76, 77, 78, 79, 80, 81, 82, 83, 84, 85, 86, 87] rfl (by decide +kernel)
set_option maxRecDepth 200000 in
theorem gX7_whyNotLabelled_X7_has : GoodIn wsX7_whyNotLabelled (wsV RX7 143 RX7 yX7_has wsX7_has) := goodIn_app (goodIn_of _ (by decide +kernel)) ggX7_whyNotLabelled_X7_has
set_option maxRecDepth 200000 in
theorem ggX7_whyNotLabelled_X7_whyNoLabel : GoodIn wsX7_whyNotLabelled wsX7_whyNoLabel := goodIn_r _ [22, 11, 23, 24, 25, 4, 26, 27, 28, 29, 30, 15, 16, 17, 18, 31, 32, 33, 34, 35, 36, 37, 38, 39, 40, 41, 42, 43, 44, 45, 12, 13, 14, 46, 47, 48, 49, 50, 51, 52, 53, 54, 55, 56, 57, 58, 59, 60, 61, 62, 63, 64, 65, 66, 67, 68, 69, 70, 71, 72, 73, 74, 75, 76, 77, 78, 79, 80, 81, 82, 83, 84, 85, 86, 87] rfl (by decide +kernel)
set_option maxRecDepth 200000 in
theorem gX7_whyNotLabelled_X7_whyNoLabel : GoodIn wsX7_whyNotLabelled (wsV RX7 89 RX7 yX7_whyNoLabel wsX7_whyNoLabel) := goodIn_app (goodIn_of _ (by decide +kernel)) ggX7_whyNotLabelled_X7_whyNoLabel
theorem dX7_whyNotLabelled_0 : decode cX7_whyNotLabelled 0 = .ok (.aload_n 0, 1) := by decide +kernel
theorem dX7_whyNotLabelled_1 : decode cX7_whyNotLabelled 1 = .ok (.iload_n 1, 1) := by decide +kernel
theorem dX7_whyNotLabelled_2 : decode cX7_whyNotLabelled 2 = .ok (.iload_n 2, 1) := by decide +kernel
theorem dX7_whyNotLabelled_3 : decode cX7_whyNotLabelled 3 = .ok (.invokevirtual 143, 3) := by decide +kernel
theorem dX7_whyNotLabelled_6 : decode cX7_whyNotLabelled 6 = .ok (.ifCond .eq 12, 3) := by decide +kernel
theorem dX7_whyNotLabelled_9 : decode cX7_whyNotLabelled 9 = .ok (.aload_n 0, 1) := by decide +kernel
theorem dX7_whyNotLabelled_10 : decode cX7_whyNotLabelled 10 = .ok (.iload_n 1, 1) := by decide +kernel
theorem dX7_whyNotLabelled_11 : decode cX7_whyNotLabelled 11 = .ok (.iload_n 2, 1) := by decide +kernel
theorem dX7_whyNotLabelled_12 : decode cX7_whyNotLabelled 12 = .ok (.invokevirtual 89, 3) := by decide +kernel
theorem dX7_whyNotLabelled_15 : decode cX7_whyNotLabelled 15 = .ok (.goto 4, 3) := by decide +kernel
theorem dX7_whyNotLabelled_18 : decode cX7_whyNotLabelled 18 = .ok (.iconst 0, 1) := by decide +kernel
theorem dX7_whyNotLabelled_19 : decode cX7_whyNotLabelled 19 = .ok (.ireturn, 1) := by decide +kernel
set_option maxRecDepth 200000 in
theorem ggX7_placesOf_X7_knows : GoodIn wsX7_placesOf wsX7_knows := goodIn_r _ [5, 6, 7, 8, 9, 4, 10, 11, 12, 13, 14, 75, 76, 77, 78, 79, 80, 81, 82, 83, 84, 85, 86, 87] rfl (by decide +kernel)
set_option maxRecDepth 200000 in
theorem gX7_placesOf_X7_knows : GoodIn wsX7_placesOf (wsV RX7 146 RX7 yX7_knows wsX7_knows) := goodIn_app (goodIn_of _ (by decide +kernel)) ggX7_placesOf_X7_knows
set_option maxRecDepth 200000 in
theorem ggX7_placesOf_X7_of : GoodIn wsX7_placesOf wsX7_of := goodIn_r _ [18, 11, 75, 76, 77, 78, 79, 80, 81, 82, 83, 84, 85, 86, 87] rfl (by decide +kernel)
set_option maxRecDepth 200000 in
theorem gX7_placesOf_X7_of : GoodIn wsX7_placesOf (wsV RX7 37 RX7 yX7_of wsX7_of) := goodIn_app (goodIn_of _ (by decide +kernel)) ggX7_placesOf_X7_of
set_option maxRecDepth 200000 in
theorem ggX7_placesOf_X7_whyNoLabel : GoodIn wsX7_placesOf wsX7_whyNoLabel := goodIn_r _ [22, 11, 23, 24, 25, 4, 26, 27, 28, 29, 30, 15, 16, 17, 18, 31, 32, 33, 34, 35, 36, 37, 38, 39, 40, 41, 42, 43, 44, 45, 12, 13, 14, 46, 47, 48, 49, 50, 51, 52, 53, 54, 55, 56, 57, 58, 59, 60, 61, 62, 63, 64, 65, 66, 67, 68, 69, 70, 71, 72, 73, 74, 75, 76, 77, 78, 79, 80, 81, 82, 83, 84, 85, 86, 87] rfl (by decide +kernel)
set_option maxRecDepth 200000 in
theorem gX7_placesOf_X7_whyNoLabel : GoodIn wsX7_placesOf (wsV RX7 89 RX7 yX7_whyNoLabel wsX7_whyNoLabel) := goodIn_app (goodIn_of _ (by decide +kernel)) ggX7_placesOf_X7_whyNoLabel
theorem dX7_placesOf_0 : decode cX7_placesOf 0 = .ok (.iconst 0, 1) := by decide +kernel
theorem dX7_placesOf_1 : decode cX7_placesOf 1 = .ok (.istore_n 2, 1) := by decide +kernel
theorem dX7_placesOf_2 : decode cX7_placesOf 2 = .ok (.aload_n 0, 1) := by decide +kernel
theorem dX7_placesOf_3 : decode cX7_placesOf 3 = .ok (.iload_n 1, 1) := by decide +kernel
theorem dX7_placesOf_4 : decode cX7_placesOf 4 = .ok (.invokevirtual 146, 3) := by decide +kernel
theorem dX7_placesOf_7 : decode cX7_placesOf 7 = .ok (.istore_n 3, 1) := by decide +kernel
theorem dX7_placesOf_8 : decode cX7_placesOf 8 = .ok (.iconst 0, 1) := by decide +kernel
theorem dX7_placesOf_9 : decode cX7_placesOf 9 = .ok (.istore 4, 2) := by decide +kernel
theorem dX7_placesOf_11 : decode cX7_placesOf 11 = .ok (.iload 4, 2) := by decide +kernel
theorem dX7_placesOf_13 : decode cX7_placesOf 13 = .ok (.iload_n 3, 1) := by decide +kernel
theorem dX7_placesOf_14 : decode cX7_placesOf 14 = .ok (.ifCond .eq 12, 3) := by decide +kernel
theorem dX7_placesOf_17 : decode cX7_placesOf 17 = .ok (.aload_n 0, 1) := by decide +kernel
theorem dX7_placesOf_18 : decode cX7_placesOf 18 = .ok (.iload_n 1, 1) := by decide +kernel
theorem dX7_placesOf_19 : decode cX7_placesOf 19 = .ok (.iconst 2, 1) := by decide +kernel
theorem dX7_placesOf_20 : decode cX7_placesOf 20 = .ok (.invokevirtual 37, 3) := by decide +kernel
theorem dX7_placesOf_23 : decode cX7_placesOf 23 = .ok (.goto 4, 3) := by decide +kernel
theorem dX7_placesOf_26 : decode cX7_placesOf 26 = .ok (.iconst (-1), 1) := by decide +kernel
theorem dX7_placesOf_27 : decode cX7_placesOf 27 = .ok (.if_icmp .gt 27, 3) := by decide +kernel
theorem dX7_placesOf_30 : decode cX7_placesOf 30 = .ok (.iload_n 2, 1) := by decide +kernel
theorem dX7_placesOf_31 : decode cX7_placesOf 31 = .ok (.aload_n 0, 1) := by decide +kernel
theorem dX7_placesOf_32 : decode cX7_placesOf 32 = .ok (.iload_n 1, 1) := by decide +kernel
theorem dX7_placesOf_33 : decode cX7_placesOf 33 = .ok (.iload 4, 2) := by decide +kernel
theorem dX7_placesOf_35 : decode cX7_placesOf 35 = .ok (.invokevirtual 89, 3) := by decide +kernel
theorem dX7_placesOf_38 : decode cX7_placesOf 38 = .ok (.ifCond .ne 7, 3) := by decide +kernel
theorem dX7_placesOf_41 : decode cX7_placesOf 41 = .ok (.iconst 1, 1) := by decide +kernel
theorem dX7_placesOf_42 : decode cX7_placesOf 42 = .ok (.goto 4, 3) := by decide +kernel
theorem dX7_placesOf_45 : decode cX7_placesOf 45 = .ok (.iconst 0, 1) := by decide +kernel
theorem dX7_placesOf_46 : decode cX7_placesOf 46 = .ok (.iadd, 1) := by decide +kernel
theorem dX7_placesOf_47 : decode cX7_placesOf 47 = .ok (.istore_n 2, 1) := by decide +kernel
theorem dX7_placesOf_48 : decode cX7_placesOf 48 = .ok (.iinc 4 1, 3) := by decide +kernel
theorem dX7_placesOf_51 : decode cX7_placesOf 51 = .ok (.goto (-40), 3) := by decide +kernel
theorem dX7_placesOf_54 : decode cX7_placesOf 54 = .ok (.iload_n 2, 1) := by decide +kernel
theorem dX7_placesOf_55 : decode cX7_placesOf 55 = .ok (.ireturn, 1) := by decide +kernel
set_option maxRecDepth 200000 in
theorem ggX7_bestPlace_X7_knows : GoodIn wsX7_bestPlace wsX7_knows := goodIn_r _ [5, 6, 7, 8, 9, 4, 10, 11, 12, 13, 14, 79, 80, 81, 82, 83, 84, 85, 86, 87, 88, 89, 90, 91] rfl (by decide +kernel)
set_option maxRecDepth 200000 in
theorem gX7_bestPlace_X7_knows : GoodIn wsX7_bestPlace (wsV RX7 146 RX7 yX7_knows wsX7_knows) := goodIn_app (goodIn_of _ (by decide +kernel)) ggX7_bestPlace_X7_knows
set_option maxRecDepth 200000 in
theorem ggX7_bestPlace_X7_best : GoodIn wsX7_bestPlace wsX7_best := goodIn_r _ [18, 19, 20, 21, 4, 22, 11, 23, 24, 25, 26, 27, 28, 29, 30, 31, 32, 33, 34, 35, 36, 37, 38, 39, 40, 41, 42, 43, 44, 45, 46, 47, 48, 49, 12, 13, 14, 50, 51, 52, 53, 54, 55, 56, 57, 58, 59, 60, 61, 62, 63, 64, 65, 66, 67, 68, 69, 70, 71, 72, 73, 74, 75, 76, 77, 78, 79, 80, 81, 82, 83, 84, 85, 86, 87, 88, 89, 90, 91] rfl (by decide +kernel)
set_option maxRecDepth 200000 in
theorem gX7_bestPlace_X7_best : GoodIn wsX7_bestPlace (wsV RX7 104 RX7 yX7_best wsX7_best) := goodIn_app (goodIn_of _ (by decide +kernel)) ggX7_bestPlace_X7_best
theorem dX7_bestPlace_0 : decode cX7_bestPlace 0 = .ok (.aload_n 0, 1) := by decide +kernel
theorem dX7_bestPlace_1 : decode cX7_bestPlace 1 = .ok (.iload_n 1, 1) := by decide +kernel
theorem dX7_bestPlace_2 : decode cX7_bestPlace 2 = .ok (.invokevirtual 146, 3) := by decide +kernel
theorem dX7_bestPlace_5 : decode cX7_bestPlace 5 = .ok (.ifCond .eq 11, 3) := by decide +kernel
theorem dX7_bestPlace_8 : decode cX7_bestPlace 8 = .ok (.aload_n 0, 1) := by decide +kernel
theorem dX7_bestPlace_9 : decode cX7_bestPlace 9 = .ok (.iload_n 1, 1) := by decide +kernel
theorem dX7_bestPlace_10 : decode cX7_bestPlace 10 = .ok (.invokevirtual 104, 3) := by decide +kernel
theorem dX7_bestPlace_13 : decode cX7_bestPlace 13 = .ok (.goto 4, 3) := by decide +kernel
theorem dX7_bestPlace_16 : decode cX7_bestPlace 16 = .ok (.iconst 0, 1) := by decide +kernel
theorem dX7_bestPlace_17 : decode cX7_bestPlace 17 = .ok (.ireturn, 1) := by decide +kernel
set_option maxRecDepth 200000 in
theorem ggX7_tooNear_X7_of : GoodIn wsX7_tooNear wsX7_of := goodIn_r _ [7, 2, 36, 37, 38, 39, 40, 41, 42, 43, 44, 45, 46, 47, 48] rfl (by decide +kernel)
set_option maxRecDepth 200000 in
theorem gX7_tooNear_X7_of : GoodIn wsX7_tooNear (wsV RX7 37 RX7 yX7_of wsX7_of) := goodIn_app (goodIn_of _ (by decide +kernel)) ggX7_tooNear_X7_of
set_option maxRecDepth 200000 in
theorem ggX7_tooNear_X7_between : GoodIn wsX7_tooNear wsX7_between := goodIn_r _ [11, 12, 13, 14, 6, 15, 3, 4, 5, 7, 2, 16, 17, 18, 19, 20, 21, 22, 23, 24, 25, 26, 27, 28, 29, 30, 31, 32, 33, 34, 35, 36, 37, 38, 39, 40, 41, 42, 43, 44, 45, 46, 47, 48] rfl (by decide +kernel)
set_option maxRecDepth 200000 in
theorem gX7_tooNear_X7_between : GoodIn wsX7_tooNear (wsV RX7 76 RX7 yX7_between wsX7_between) := goodIn_app (goodIn_of _ (by decide +kernel)) ggX7_tooNear_X7_between
theorem dX7_tooNear_0 : decode cX7_tooNear 0 = .ok (.aload_n 0, 1) := by decide +kernel
theorem dX7_tooNear_1 : decode cX7_tooNear 1 = .ok (.iconst 0, 1) := by decide +kernel
theorem dX7_tooNear_2 : decode cX7_tooNear 2 = .ok (.putfield 22, 3) := by decide +kernel
theorem dX7_tooNear_5 : decode cX7_tooNear 5 = .ok (.iconst 0, 1) := by decide +kernel
theorem dX7_tooNear_6 : decode cX7_tooNear 6 = .ok (.istore_n 1, 1) := by decide +kernel
theorem dX7_tooNear_7 : decode cX7_tooNear 7 = .ok (.iconst 0, 1) := by decide +kernel
theorem dX7_tooNear_8 : decode cX7_tooNear 8 = .ok (.istore_n 2, 1) := by decide +kernel
theorem dX7_tooNear_9 : decode cX7_tooNear 9 = .ok (.iload_n 2, 1) := by decide +kernel
theorem dX7_tooNear_10 : decode cX7_tooNear 10 = .ok (.aload_n 0, 1) := by decide +kernel
theorem dX7_tooNear_11 : decode cX7_tooNear 11 = .ok (.getfield 7, 3) := by decide +kernel
theorem dX7_tooNear_14 : decode cX7_tooNear 14 = .ok (.iconst 0, 1) := by decide +kernel
theorem dX7_tooNear_15 : decode cX7_tooNear 15 = .ok (.iaload, 1) := by decide +kernel
theorem dX7_tooNear_16 : decode cX7_tooNear 16 = .ok (.if_icmp .ge 89, 3) := by decide +kernel
theorem dX7_tooNear_19 : decode cX7_tooNear 19 = .ok (.iconst 0, 1) := by decide +kernel
theorem dX7_tooNear_20 : decode cX7_tooNear 20 = .ok (.istore_n 3, 1) := by decide +kernel
theorem dX7_tooNear_21 : decode cX7_tooNear 21 = .ok (.iload_n 3, 1) := by decide +kernel
theorem dX7_tooNear_22 : decode cX7_tooNear 22 = .ok (.iload_n 2, 1) := by decide +kernel
theorem dX7_tooNear_23 : decode cX7_tooNear 23 = .ok (.if_icmp .ge 76, 3) := by decide +kernel
theorem dX7_tooNear_26 : decode cX7_tooNear 26 = .ok (.aload_n 0, 1) := by decide +kernel
theorem dX7_tooNear_27 : decode cX7_tooNear 27 = .ok (.iload_n 2, 1) := by decide +kernel
theorem dX7_tooNear_28 : decode cX7_tooNear 28 = .ok (.iconst 3, 1) := by decide +kernel
theorem dX7_tooNear_29 : decode cX7_tooNear 29 = .ok (.invokevirtual 37, 3) := by decide +kernel
theorem dX7_tooNear_32 : decode cX7_tooNear 32 = .ok (.iconst (-1), 1) := by decide +kernel
theorem dX7_tooNear_33 : decode cX7_tooNear 33 = .ok (.if_icmp .eq 17, 3) := by decide +kernel
theorem dX7_tooNear_36 : decode cX7_tooNear 36 = .ok (.aload_n 0, 1) := by decide +kernel
theorem dX7_tooNear_37 : decode cX7_tooNear 37 = .ok (.iload_n 3, 1) := by decide +kernel
theorem dX7_tooNear_38 : decode cX7_tooNear 38 = .ok (.iconst 3, 1) := by decide +kernel
theorem dX7_tooNear_39 : decode cX7_tooNear 39 = .ok (.invokevirtual 37, 3) := by decide +kernel
theorem dX7_tooNear_42 : decode cX7_tooNear 42 = .ok (.iconst (-1), 1) := by decide +kernel
theorem dX7_tooNear_43 : decode cX7_tooNear 43 = .ok (.if_icmp .eq 7, 3) := by decide +kernel
theorem dX7_tooNear_46 : decode cX7_tooNear 46 = .ok (.iconst 1, 1) := by decide +kernel
theorem dX7_tooNear_47 : decode cX7_tooNear 47 = .ok (.goto 4, 3) := by decide +kernel
theorem dX7_tooNear_50 : decode cX7_tooNear 50 = .ok (.iconst 0, 1) := by decide +kernel
theorem dX7_tooNear_51 : decode cX7_tooNear 51 = .ok (.istore 4, 2) := by decide +kernel
theorem dX7_tooNear_53 : decode cX7_tooNear 53 = .ok (.iload_n 1, 1) := by decide +kernel
theorem dX7_tooNear_54 : decode cX7_tooNear 54 = .ok (.iload 4, 2) := by decide +kernel
theorem dX7_tooNear_56 : decode cX7_tooNear 56 = .ok (.ifCond .eq 34, 3) := by decide +kernel
theorem dX7_tooNear_59 : decode cX7_tooNear 59 = .ok (.aload_n 0, 1) := by decide +kernel
theorem dX7_tooNear_60 : decode cX7_tooNear 60 = .ok (.iload_n 2, 1) := by decide +kernel
theorem dX7_tooNear_61 : decode cX7_tooNear 61 = .ok (.aload_n 0, 1) := by decide +kernel
theorem dX7_tooNear_62 : decode cX7_tooNear 62 = .ok (.iload_n 2, 1) := by decide +kernel
theorem dX7_tooNear_63 : decode cX7_tooNear 63 = .ok (.iconst 3, 1) := by decide +kernel
theorem dX7_tooNear_64 : decode cX7_tooNear 64 = .ok (.invokevirtual 37, 3) := by decide +kernel
theorem dX7_tooNear_67 : decode cX7_tooNear 67 = .ok (.iload_n 3, 1) := by decide +kernel
theorem dX7_tooNear_68 : decode cX7_tooNear 68 = .ok (.aload_n 0, 1) := by decide +kernel
theorem dX7_tooNear_69 : decode cX7_tooNear 69 = .ok (.iload_n 3, 1) := by decide +kernel
theorem dX7_tooNear_70 : decode cX7_tooNear 70 = .ok (.iconst 3, 1) := by decide +kernel
theorem dX7_tooNear_71 : decode cX7_tooNear 71 = .ok (.invokevirtual 37, 3) := by decide +kernel
theorem dX7_tooNear_74 : decode cX7_tooNear 74 = .ok (.invokevirtual 76, 3) := by decide +kernel
theorem dX7_tooNear_77 : decode cX7_tooNear 77 = .ok (.aload_n 0, 1) := by decide +kernel
theorem dX7_tooNear_78 : decode cX7_tooNear 78 = .ok (.getfield 7, 3) := by decide +kernel
theorem dX7_tooNear_81 : decode cX7_tooNear 81 = .ok (.iconst 1, 1) := by decide +kernel
theorem dX7_tooNear_82 : decode cX7_tooNear 82 = .ok (.iaload, 1) := by decide +kernel
theorem dX7_tooNear_83 : decode cX7_tooNear 83 = .ok (.if_icmp .ge 7, 3) := by decide +kernel
theorem dX7_tooNear_86 : decode cX7_tooNear 86 = .ok (.iconst 1, 1) := by decide +kernel
theorem dX7_tooNear_87 : decode cX7_tooNear 87 = .ok (.goto 4, 3) := by decide +kernel
theorem dX7_tooNear_90 : decode cX7_tooNear 90 = .ok (.iconst 0, 1) := by decide +kernel
theorem dX7_tooNear_91 : decode cX7_tooNear 91 = .ok (.iadd, 1) := by decide +kernel
theorem dX7_tooNear_92 : decode cX7_tooNear 92 = .ok (.istore_n 1, 1) := by decide +kernel
theorem dX7_tooNear_93 : decode cX7_tooNear 93 = .ok (.iinc 3 1, 3) := by decide +kernel
theorem dX7_tooNear_96 : decode cX7_tooNear 96 = .ok (.goto (-75), 3) := by decide +kernel
theorem dX7_tooNear_99 : decode cX7_tooNear 99 = .ok (.iinc 2 1, 3) := by decide +kernel
theorem dX7_tooNear_102 : decode cX7_tooNear 102 = .ok (.goto (-93), 3) := by decide +kernel
theorem dX7_tooNear_105 : decode cX7_tooNear 105 = .ok (.iload_n 1, 1) := by decide +kernel
theorem dX7_tooNear_106 : decode cX7_tooNear 106 = .ok (.ireturn, 1) := by decide +kernel
set_option maxRecDepth 200000 in
theorem ggX7_contains_X7_closes : GoodIn wsX7_contains wsX7_closes := goodIn_r _ [5, 6, 7, 8, 4, 9, 10, 11, 12, 13, 14, 15, 16, 17, 18, 19, 20, 21, 22, 23, 24, 25, 26, 27, 32, 33, 34, 35, 36, 37, 38, 39, 40, 41, 42, 43, 44] rfl (by decide +kernel)
set_option maxRecDepth 200000 in
theorem gX7_contains_X7_closes : GoodIn wsX7_contains (wsV RX7 47 RX7 yX7_closes wsX7_closes) := goodIn_app (goodIn_of _ (by decide +kernel)) ggX7_contains_X7_closes
set_option maxRecDepth 200000 in
theorem ggX7_contains_X7_owner : GoodIn wsX7_contains wsX7_owner := goodIn_r _ [31, 10, 6, 7, 8, 4, 9, 19, 20, 21, 22, 23, 24, 25, 26, 27, 32, 33, 34, 35, 36, 37, 38, 39, 40, 41, 42, 43, 44] rfl (by decide +kernel)
set_option maxRecDepth 200000 in
theorem gX7_contains_X7_owner : GoodIn wsX7_contains (wsV RX7 54 RX7 yX7_owner wsX7_owner) := goodIn_app (goodIn_of _ (by decide +kernel)) ggX7_contains_X7_owner
set_option maxRecDepth 200000 in
theorem ggX7_contains_X7_of : GoodIn wsX7_contains wsX7_of := goodIn_r _ [9, 10, 32, 33, 34, 35, 36, 37, 38, 39, 40, 41, 42, 43, 44] rfl (by decide +kernel)
set_option maxRecDepth 200000 in
theorem gX7_contains_X7_of : GoodIn wsX7_contains (wsV RX7 37 RX7 yX7_of wsX7_of) := goodIn_app (goodIn_of _ (by decide +kernel)) ggX7_contains_X7_of
set_option maxRecDepth 200000 in
theorem ggX7_contains_X7_down : GoodIn wsX7_contains wsX7_down := goodIn_r _ [21, 22, 23, 4, 24] rfl (by decide +kernel)
set_option maxRecDepth 200000 in
theorem gX7_contains_X7_down : GoodIn wsX7_contains (va_wsS RX7 34 yX7_down wsX7_down) := goodIn_app (goodIn_of _ (by decide +kernel)) ggX7_contains_X7_down
set_option maxRecDepth 200000 in
theorem ggX7_contains_X7_across : GoodIn wsX7_contains wsX7_across := goodIn_r _ [27] rfl (by decide +kernel)
set_option maxRecDepth 200000 in
theorem gX7_contains_X7_across : GoodIn wsX7_contains (va_wsS RX7 30 yX7_across wsX7_across) := goodIn_app (goodIn_of _ (by decide +kernel)) ggX7_contains_X7_across
theorem dX7_contains_0 : decode cX7_contains 0 = .ok (.aload_n 0, 1) := by decide +kernel
theorem dX7_contains_1 : decode cX7_contains 1 = .ok (.iload_n 1, 1) := by decide +kernel
theorem dX7_contains_2 : decode cX7_contains 2 = .ok (.invokevirtual 47, 3) := by decide +kernel
theorem dX7_contains_5 : decode cX7_contains 5 = .ok (.ifCond .eq 12, 3) := by decide +kernel
theorem dX7_contains_8 : decode cX7_contains 8 = .ok (.aload_n 0, 1) := by decide +kernel
theorem dX7_contains_9 : decode cX7_contains 9 = .ok (.iload_n 2, 1) := by decide +kernel
theorem dX7_contains_10 : decode cX7_contains 10 = .ok (.invokevirtual 54, 3) := by decide +kernel
theorem dX7_contains_13 : decode cX7_contains 13 = .ok (.iload_n 1, 1) := by decide +kernel
theorem dX7_contains_14 : decode cX7_contains 14 = .ok (.if_icmp .ne 5, 3) := by decide +kernel
theorem dX7_contains_17 : decode cX7_contains 17 = .ok (.iconst 0, 1) := by decide +kernel
theorem dX7_contains_18 : decode cX7_contains 18 = .ok (.ireturn, 1) := by decide +kernel
theorem dX7_contains_19 : decode cX7_contains 19 = .ok (.iconst 0, 1) := by decide +kernel
theorem dX7_contains_20 : decode cX7_contains 20 = .ok (.istore_n 3, 1) := by decide +kernel
theorem dX7_contains_21 : decode cX7_contains 21 = .ok (.aload_n 0, 1) := by decide +kernel
theorem dX7_contains_22 : decode cX7_contains 22 = .ok (.iload_n 1, 1) := by decide +kernel
theorem dX7_contains_23 : decode cX7_contains 23 = .ok (.iconst 1, 1) := by decide +kernel
theorem dX7_contains_24 : decode cX7_contains 24 = .ok (.invokevirtual 37, 3) := by decide +kernel
theorem dX7_contains_27 : decode cX7_contains 27 = .ok (.istore 4, 2) := by decide +kernel
theorem dX7_contains_29 : decode cX7_contains 29 = .ok (.iconst 0, 1) := by decide +kernel
theorem dX7_contains_30 : decode cX7_contains 30 = .ok (.istore 5, 2) := by decide +kernel
theorem dX7_contains_32 : decode cX7_contains 32 = .ok (.iload 5, 2) := by decide +kernel
theorem dX7_contains_34 : decode cX7_contains 34 = .ok (.aload_n 0, 1) := by decide +kernel
theorem dX7_contains_35 : decode cX7_contains 35 = .ok (.iload_n 1, 1) := by decide +kernel
theorem dX7_contains_36 : decode cX7_contains 36 = .ok (.iconst 2, 1) := by decide +kernel
theorem dX7_contains_37 : decode cX7_contains 37 = .ok (.invokevirtual 37, 3) := by decide +kernel
theorem dX7_contains_40 : decode cX7_contains 40 = .ok (.if_icmp .ge 126, 3) := by decide +kernel
theorem dX7_contains_43 : decode cX7_contains 43 = .ok (.iload 4, 2) := by decide +kernel
theorem dX7_contains_45 : decode cX7_contains 45 = .ok (.bipush 24, 2) := by decide +kernel
theorem dX7_contains_47 : decode cX7_contains 47 = .ok (.aload_n 0, 1) := by decide +kernel
theorem dX7_contains_48 : decode cX7_contains 48 = .ok (.iload_n 1, 1) := by decide +kernel
theorem dX7_contains_49 : decode cX7_contains 49 = .ok (.iconst 4, 1) := by decide +kernel
theorem dX7_contains_50 : decode cX7_contains 50 = .ok (.iload 5, 2) := by decide +kernel
theorem dX7_contains_52 : decode cX7_contains 52 = .ok (.iadd, 1) := by decide +kernel
theorem dX7_contains_53 : decode cX7_contains 53 = .ok (.invokevirtual 37, 3) := by decide +kernel
theorem dX7_contains_56 : decode cX7_contains 56 = .ok (.invokestatic 34, 3) := by decide +kernel
theorem dX7_contains_59 : decode cX7_contains 59 = .ok (.imul, 1) := by decide +kernel
theorem dX7_contains_60 : decode cX7_contains 60 = .ok (.iadd, 1) := by decide +kernel
theorem dX7_contains_61 : decode cX7_contains 61 = .ok (.aload_n 0, 1) := by decide +kernel
theorem dX7_contains_62 : decode cX7_contains 62 = .ok (.iload_n 1, 1) := by decide +kernel
theorem dX7_contains_63 : decode cX7_contains 63 = .ok (.iconst 4, 1) := by decide +kernel
theorem dX7_contains_64 : decode cX7_contains 64 = .ok (.iload 5, 2) := by decide +kernel
theorem dX7_contains_66 : decode cX7_contains 66 = .ok (.iadd, 1) := by decide +kernel
theorem dX7_contains_67 : decode cX7_contains 67 = .ok (.invokevirtual 37, 3) := by decide +kernel
theorem dX7_contains_70 : decode cX7_contains 70 = .ok (.invokestatic 30, 3) := by decide +kernel
theorem dX7_contains_73 : decode cX7_contains 73 = .ok (.iadd, 1) := by decide +kernel
theorem dX7_contains_74 : decode cX7_contains 74 = .ok (.istore 6, 2) := by decide +kernel
theorem dX7_contains_76 : decode cX7_contains 76 = .ok (.iload 4, 2) := by decide +kernel
theorem dX7_contains_78 : decode cX7_contains 78 = .ok (.iload 6, 2) := by decide +kernel
theorem dX7_contains_80 : decode cX7_contains 80 = .ok (.if_icmp .ge 8, 3) := by decide +kernel
theorem dX7_contains_83 : decode cX7_contains 83 = .ok (.iload 4, 2) := by decide +kernel
theorem dX7_contains_85 : decode cX7_contains 85 = .ok (.goto 5, 3) := by decide +kernel
theorem dX7_contains_88 : decode cX7_contains 88 = .ok (.iload 6, 2) := by decide +kernel
theorem dX7_contains_90 : decode cX7_contains 90 = .ok (.istore 7, 2) := by decide +kernel
theorem dX7_contains_92 : decode cX7_contains 92 = .ok (.iload 4, 2) := by decide +kernel
theorem dX7_contains_94 : decode cX7_contains 94 = .ok (.bipush 24, 2) := by decide +kernel
theorem dX7_contains_96 : decode cX7_contains 96 = .ok (.idiv, 1) := by decide +kernel
theorem dX7_contains_97 : decode cX7_contains 97 = .ok (.iload 6, 2) := by decide +kernel
theorem dX7_contains_99 : decode cX7_contains 99 = .ok (.bipush 24, 2) := by decide +kernel
theorem dX7_contains_101 : decode cX7_contains 101 = .ok (.idiv, 1) := by decide +kernel
theorem dX7_contains_102 : decode cX7_contains 102 = .ok (.if_icmp .eq 19, 3) := by decide +kernel
theorem dX7_contains_105 : decode cX7_contains 105 = .ok (.iload 7, 2) := by decide +kernel
theorem dX7_contains_107 : decode cX7_contains 107 = .ok (.bipush 24, 2) := by decide +kernel
theorem dX7_contains_109 : decode cX7_contains 109 = .ok (.idiv, 1) := by decide +kernel
theorem dX7_contains_110 : decode cX7_contains 110 = .ok (.iload_n 2, 1) := by decide +kernel
theorem dX7_contains_111 : decode cX7_contains 111 = .ok (.bipush 24, 2) := by decide +kernel
theorem dX7_contains_113 : decode cX7_contains 113 = .ok (.idiv, 1) := by decide +kernel
theorem dX7_contains_114 : decode cX7_contains 114 = .ok (.if_icmp .ne 7, 3) := by decide +kernel
theorem dX7_contains_117 : decode cX7_contains 117 = .ok (.iconst 1, 1) := by decide +kernel
theorem dX7_contains_118 : decode cX7_contains 118 = .ok (.goto 4, 3) := by decide +kernel
theorem dX7_contains_121 : decode cX7_contains 121 = .ok (.iconst 0, 1) := by decide +kernel
theorem dX7_contains_122 : decode cX7_contains 122 = .ok (.istore 8, 2) := by decide +kernel
theorem dX7_contains_124 : decode cX7_contains 124 = .ok (.iload_n 3, 1) := by decide +kernel
theorem dX7_contains_125 : decode cX7_contains 125 = .ok (.iload 8, 2) := by decide +kernel
theorem dX7_contains_127 : decode cX7_contains 127 = .ok (.ifCond .eq 19, 3) := by decide +kernel
theorem dX7_contains_130 : decode cX7_contains 130 = .ok (.iload 7, 2) := by decide +kernel
theorem dX7_contains_132 : decode cX7_contains 132 = .ok (.bipush 24, 2) := by decide +kernel
theorem dX7_contains_134 : decode cX7_contains 134 = .ok (.irem, 1) := by decide +kernel
theorem dX7_contains_135 : decode cX7_contains 135 = .ok (.iload_n 2, 1) := by decide +kernel
theorem dX7_contains_136 : decode cX7_contains 136 = .ok (.bipush 24, 2) := by decide +kernel
theorem dX7_contains_138 : decode cX7_contains 138 = .ok (.irem, 1) := by decide +kernel
theorem dX7_contains_139 : decode cX7_contains 139 = .ok (.if_icmp .le 7, 3) := by decide +kernel
theorem dX7_contains_142 : decode cX7_contains 142 = .ok (.iconst 1, 1) := by decide +kernel
theorem dX7_contains_143 : decode cX7_contains 143 = .ok (.goto 4, 3) := by decide +kernel
theorem dX7_contains_146 : decode cX7_contains 146 = .ok (.iconst 0, 1) := by decide +kernel
theorem dX7_contains_147 : decode cX7_contains 147 = .ok (.if_icmp .eq 7, 3) := by decide +kernel
theorem dX7_contains_150 : decode cX7_contains 150 = .ok (.iconst 1, 1) := by decide +kernel
theorem dX7_contains_151 : decode cX7_contains 151 = .ok (.goto 4, 3) := by decide +kernel
theorem dX7_contains_154 : decode cX7_contains 154 = .ok (.iconst 0, 1) := by decide +kernel
theorem dX7_contains_155 : decode cX7_contains 155 = .ok (.istore_n 3, 1) := by decide +kernel
theorem dX7_contains_156 : decode cX7_contains 156 = .ok (.iload 6, 2) := by decide +kernel
theorem dX7_contains_158 : decode cX7_contains 158 = .ok (.istore 4, 2) := by decide +kernel
theorem dX7_contains_160 : decode cX7_contains 160 = .ok (.iinc 5 1, 3) := by decide +kernel
theorem dX7_contains_163 : decode cX7_contains 163 = .ok (.goto (-131), 3) := by decide +kernel
theorem dX7_contains_166 : decode cX7_contains 166 = .ok (.iload_n 3, 1) := by decide +kernel
theorem dX7_contains_167 : decode cX7_contains 167 = .ok (.ireturn, 1) := by decide +kernel
set_option maxRecDepth 200000 in
theorem ggX7_isWithinByRays_X7_isLine : GoodIn wsX7_isWithinByRays wsX7_isLine := goodIn_r _ [6, 7, 8, 9, 5, 10, 44, 45, 46, 47, 48, 49, 50, 51, 52, 53, 54, 55, 56] rfl (by decide +kernel)
set_option maxRecDepth 200000 in
theorem gX7_isWithinByRays_X7_isLine : GoodIn wsX7_isWithinByRays (wsV RX7 98 RX7 yX7_isLine wsX7_isLine) := goodIn_app (goodIn_of _ (by decide +kernel)) ggX7_isWithinByRays_X7_isLine
set_option maxRecDepth 200000 in
theorem ggX7_isWithinByRays_X7_isPoint : GoodIn wsX7_isWithinByRays wsX7_isPoint := goodIn_r _ [13, 8, 9, 5, 10] rfl (by decide +kernel)
set_option maxRecDepth 200000 in
theorem gX7_isWithinByRays_X7_isPoint : GoodIn wsX7_isWithinByRays (va_wsS RX7 95 yX7_isPoint wsX7_isPoint) := goodIn_app (goodIn_of _ (by decide +kernel)) ggX7_isWithinByRays_X7_isPoint
set_option maxRecDepth 200000 in
theorem ggX7_isWithinByRays_X7_contains : GoodIn wsX7_isWithinByRays wsX7_contains := goodIn_r _ [17, 18, 19, 20, 5, 21, 22, 23, 24, 25, 7, 26, 27, 28, 29, 30, 31, 32, 33, 34, 35, 36, 8, 9, 10, 37, 38, 39, 40, 41, 42, 43, 44, 45, 46, 47, 48, 49, 50, 51, 52, 53, 54, 55, 56] rfl (by decide +kernel)
set_option maxRecDepth 200000 in
theorem gX7_isWithinByRays_X7_contains : GoodIn wsX7_isWithinByRays (wsV RX7 160 RX7 yX7_contains wsX7_contains) := goodIn_app (goodIn_of _ (by decide +kernel)) ggX7_isWithinByRays_X7_contains
theorem dX7_isWithinByRays_0 : decode cX7_isWithinByRays 0 = .ok (.aload_n 0, 1) := by decide +kernel
theorem dX7_isWithinByRays_1 : decode cX7_isWithinByRays 1 = .ok (.aload_n 0, 1) := by decide +kernel
theorem dX7_isWithinByRays_2 : decode cX7_isWithinByRays 2 = .ok (.iload_n 1, 1) := by decide +kernel
