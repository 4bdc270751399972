theorem dX7_isWithinByRays_3 : decode cX7_isWithinByRays 3 = .ok (.invokevirtual 98, 3) := by decide +kernel
theorem dX7_isWithinByRays_6 : decode cX7_isWithinByRays 6 = .ok (.ifCond .eq 14, 3) := by decide +kernel
theorem dX7_isWithinByRays_9 : decode cX7_isWithinByRays 9 = .ok (.iload_n 2, 1) := by decide +kernel
theorem dX7_isWithinByRays_10 : decode cX7_isWithinByRays 10 = .ok (.invokestatic 95, 3) := by decide +kernel
theorem dX7_isWithinByRays_13 : decode cX7_isWithinByRays 13 = .ok (.ifCond .eq 7, 3) := by decide +kernel
theorem dX7_isWithinByRays_16 : decode cX7_isWithinByRays 16 = .ok (.iconst 0, 1) := by decide +kernel
theorem dX7_isWithinByRays_17 : decode cX7_isWithinByRays 17 = .ok (.goto 4, 3) := by decide +kernel
theorem dX7_isWithinByRays_20 : decode cX7_isWithinByRays 20 = .ok (.iconst 1, 1) := by decide +kernel
theorem dX7_isWithinByRays_21 : decode cX7_isWithinByRays 21 = .ok (.putfield 22, 3) := by decide +kernel
theorem dX7_isWithinByRays_24 : decode cX7_isWithinByRays 24 = .ok (.aload_n 0, 1) := by decide +kernel
theorem dX7_isWithinByRays_25 : decode cX7_isWithinByRays 25 = .ok (.getfield 22, 3) := by decide +kernel
theorem dX7_isWithinByRays_28 : decode cX7_isWithinByRays 28 = .ok (.ifCond .ne 16, 3) := by decide +kernel
theorem dX7_isWithinByRays_31 : decode cX7_isWithinByRays 31 = .ok (.aload_n 0, 1) := by decide +kernel
theorem dX7_isWithinByRays_32 : decode cX7_isWithinByRays 32 = .ok (.iload_n 1, 1) := by decide +kernel
theorem dX7_isWithinByRays_33 : decode cX7_isWithinByRays 33 = .ok (.iload_n 2, 1) := by decide +kernel
theorem dX7_isWithinByRays_34 : decode cX7_isWithinByRays 34 = .ok (.invokevirtual 160, 3) := by decide +kernel
theorem dX7_isWithinByRays_37 : decode cX7_isWithinByRays 37 = .ok (.ifCond .eq 7, 3) := by decide +kernel
theorem dX7_isWithinByRays_40 : decode cX7_isWithinByRays 40 = .ok (.iconst 1, 1) := by decide +kernel
theorem dX7_isWithinByRays_41 : decode cX7_isWithinByRays 41 = .ok (.goto 4, 3) := by decide +kernel
theorem dX7_isWithinByRays_44 : decode cX7_isWithinByRays 44 = .ok (.iconst 0, 1) := by decide +kernel
theorem dX7_isWithinByRays_45 : decode cX7_isWithinByRays 45 = .ok (.ireturn, 1) := by decide +kernel
set_option maxRecDepth 200000 in
theorem ggX7_isWithinBySpreading_X7_isWithinByRays : GoodIn wsX7_isWithinBySpreading wsX7_isWithinByRays := goodIn_r _ [5, 6, 7, 8, 9, 4, 10, 11, 12, 13, 14, 15, 16, 17, 18, 19, 20, 21, 22, 23, 24, 25, 26, 27, 28, 29, 30, 31, 32, 33, 34, 35, 36, 37, 38, 39, 40, 41, 42, 43, 44, 45, 46, 47, 48, 49, 50, 51, 52, 53, 54, 55, 56, 57, 58, 59, 60] rfl (by decide +kernel)
set_option maxRecDepth 200000 in
theorem gX7_isWithinBySpreading_X7_isWithinByRays : GoodIn wsX7_isWithinBySpreading (wsV RX7 163 RX7 yX7_isWithinByRays wsX7_isWithinByRays) := goodIn_app (goodIn_of _ (by decide +kernel)) ggX7_isWithinBySpreading_X7_isWithinByRays
theorem dX7_isWithinBySpreading_0 : decode cX7_isWithinBySpreading 0 = .ok (.aload_n 0, 1) := by decide +kernel
theorem dX7_isWithinBySpreading_1 : decode cX7_isWithinBySpreading 1 = .ok (.iload_n 1, 1) := by decide +kernel
theorem dX7_isWithinBySpreading_2 : decode cX7_isWithinBySpreading 2 = .ok (.iload_n 2, 1) := by decide +kernel
theorem dX7_isWithinBySpreading_3 : decode cX7_isWithinBySpreading 3 = .ok (.invokevirtual 163, 3) := by decide +kernel
theorem dX7_isWithinBySpreading_6 : decode cX7_isWithinBySpreading 6 = .ok (.ireturn, 1) := by decide +kernel
set_option maxRecDepth 200000 in
theorem ggX7_pointsWithin_X7_knows : GoodIn wsX7_pointsWithin wsX7_knows := goodIn_r _ [5, 6, 7, 8, 9, 4, 10, 11, 12, 13, 14, 45, 46, 47, 48, 49, 50, 51, 52, 53, 54, 55, 56, 57] rfl (by decide +kernel)
set_option maxRecDepth 200000 in
theorem gX7_pointsWithin_X7_knows : GoodIn wsX7_pointsWithin (wsV RX7 146 RX7 yX7_knows wsX7_knows) := goodIn_app (goodIn_of _ (by decide +kernel)) ggX7_pointsWithin_X7_knows
set_option maxRecDepth 200000 in
theorem ggX7_pointsWithin_X7_contains : GoodIn wsX7_pointsWithin wsX7_contains := goodIn_r _ [18, 19, 20, 21, 4, 22, 23, 24, 25, 26, 11, 27, 28, 29, 30, 31, 32, 33, 34, 35, 36, 37, 12, 13, 14, 38, 39, 40, 41, 42, 43, 44, 45, 46, 47, 48, 49, 50, 51, 52, 53, 54, 55, 56, 57] rfl (by decide +kernel)
set_option maxRecDepth 200000 in
theorem gX7_pointsWithin_X7_contains : GoodIn wsX7_pointsWithin (wsV RX7 160 RX7 yX7_contains wsX7_contains) := goodIn_app (goodIn_of _ (by decide +kernel)) ggX7_pointsWithin_X7_contains
theorem dX7_pointsWithin_0 : decode cX7_pointsWithin 0 = .ok (.iconst 0, 1) := by decide +kernel
theorem dX7_pointsWithin_1 : decode cX7_pointsWithin 1 = .ok (.istore_n 2, 1) := by decide +kernel
theorem dX7_pointsWithin_2 : decode cX7_pointsWithin 2 = .ok (.aload_n 0, 1) := by decide +kernel
theorem dX7_pointsWithin_3 : decode cX7_pointsWithin 3 = .ok (.iload_n 1, 1) := by decide +kernel
theorem dX7_pointsWithin_4 : decode cX7_pointsWithin 4 = .ok (.invokevirtual 146, 3) := by decide +kernel
theorem dX7_pointsWithin_7 : decode cX7_pointsWithin 7 = .ok (.istore_n 3, 1) := by decide +kernel
theorem dX7_pointsWithin_8 : decode cX7_pointsWithin 8 = .ok (.iconst 0, 1) := by decide +kernel
theorem dX7_pointsWithin_9 : decode cX7_pointsWithin 9 = .ok (.istore 4, 2) := by decide +kernel
theorem dX7_pointsWithin_11 : decode cX7_pointsWithin 11 = .ok (.iload 4, 2) := by decide +kernel
theorem dX7_pointsWithin_13 : decode cX7_pointsWithin 13 = .ok (.sipush 384, 3) := by decide +kernel
theorem dX7_pointsWithin_16 : decode cX7_pointsWithin 16 = .ok (.if_icmp .ge 31, 3) := by decide +kernel
theorem dX7_pointsWithin_19 : decode cX7_pointsWithin 19 = .ok (.iload_n 3, 1) := by decide +kernel
theorem dX7_pointsWithin_20 : decode cX7_pointsWithin 20 = .ok (.ifCond .eq 27, 3) := by decide +kernel
theorem dX7_pointsWithin_23 : decode cX7_pointsWithin 23 = .ok (.iload_n 2, 1) := by decide +kernel
theorem dX7_pointsWithin_24 : decode cX7_pointsWithin 24 = .ok (.aload_n 0, 1) := by decide +kernel
theorem dX7_pointsWithin_25 : decode cX7_pointsWithin 25 = .ok (.iload_n 1, 1) := by decide +kernel
theorem dX7_pointsWithin_26 : decode cX7_pointsWithin 26 = .ok (.iload 4, 2) := by decide +kernel
theorem dX7_pointsWithin_28 : decode cX7_pointsWithin 28 = .ok (.invokevirtual 160, 3) := by decide +kernel
theorem dX7_pointsWithin_31 : decode cX7_pointsWithin 31 = .ok (.ifCond .eq 7, 3) := by decide +kernel
theorem dX7_pointsWithin_34 : decode cX7_pointsWithin 34 = .ok (.iconst 1, 1) := by decide +kernel
theorem dX7_pointsWithin_35 : decode cX7_pointsWithin 35 = .ok (.goto 4, 3) := by decide +kernel
theorem dX7_pointsWithin_38 : decode cX7_pointsWithin 38 = .ok (.iconst 0, 1) := by decide +kernel
theorem dX7_pointsWithin_39 : decode cX7_pointsWithin 39 = .ok (.iadd, 1) := by decide +kernel
theorem dX7_pointsWithin_40 : decode cX7_pointsWithin 40 = .ok (.istore_n 2, 1) := by decide +kernel
theorem dX7_pointsWithin_41 : decode cX7_pointsWithin 41 = .ok (.iinc 4 1, 3) := by decide +kernel
theorem dX7_pointsWithin_44 : decode cX7_pointsWithin 44 = .ok (.goto (-33), 3) := by decide +kernel
theorem dX7_pointsWithin_47 : decode cX7_pointsWithin 47 = .ok (.iload_n 2, 1) := by decide +kernel
theorem dX7_pointsWithin_48 : decode cX7_pointsWithin 48 = .ok (.ireturn, 1) := by decide +kernel
set_option maxRecDepth 200000 in
theorem ggX7_round_X7_of : GoodIn wsX7_round wsX7_of := goodIn_r _ [6, 1, 36, 37, 38, 39, 40, 41, 42, 43, 44, 45, 46, 47, 48] rfl (by decide +kernel)
set_option maxRecDepth 200000 in
theorem gX7_round_X7_of : GoodIn wsX7_round (wsV RX7 37 RX7 yX7_of wsX7_of) := goodIn_app (goodIn_of _ (by decide +kernel)) ggX7_round_X7_of
set_option maxRecDepth 200000 in
theorem ggX7_round_X7_contains : GoodIn wsX7_round wsX7_contains := goodIn_r _ [10, 11, 12, 13, 5, 14, 2, 3, 4, 6, 1, 15, 16, 17, 18, 19, 20, 21, 22, 23, 24, 25, 26, 27, 28, 29, 30, 31, 32, 33, 34, 35, 36, 37, 38, 39, 40, 41, 42, 43, 44, 45, 46, 47, 48] rfl (by decide +kernel)
set_option maxRecDepth 200000 in
theorem gX7_round_X7_contains : GoodIn wsX7_round (wsV RX7 160 RX7 yX7_contains wsX7_contains) := goodIn_app (goodIn_of _ (by decide +kernel)) ggX7_round_X7_contains
theorem dX7_round_0 : decode cX7_round 0 = .ok (.iconst (-1), 1) := by decide +kernel
theorem dX7_round_1 : decode cX7_round 1 = .ok (.istore_n 2, 1) := by decide +kernel
theorem dX7_round_2 : decode cX7_round 2 = .ok (.iconst 0, 1) := by decide +kernel
theorem dX7_round_3 : decode cX7_round 3 = .ok (.istore_n 3, 1) := by decide +kernel
theorem dX7_round_4 : decode cX7_round 4 = .ok (.iload_n 3, 1) := by decide +kernel
theorem dX7_round_5 : decode cX7_round 5 = .ok (.aload_n 0, 1) := by decide +kernel
theorem dX7_round_6 : decode cX7_round 6 = .ok (.getfield 7, 3) := by decide +kernel
theorem dX7_round_9 : decode cX7_round 9 = .ok (.iconst 0, 1) := by decide +kernel
theorem dX7_round_10 : decode cX7_round 10 = .ok (.iaload, 1) := by decide +kernel
theorem dX7_round_11 : decode cX7_round 11 = .ok (.if_icmp .ge 52, 3) := by decide +kernel
theorem dX7_round_14 : decode cX7_round 14 = .ok (.aload_n 0, 1) := by decide +kernel
theorem dX7_round_15 : decode cX7_round 15 = .ok (.iload_n 3, 1) := by decide +kernel
theorem dX7_round_16 : decode cX7_round 16 = .ok (.aload_n 0, 1) := by decide +kernel
theorem dX7_round_17 : decode cX7_round 17 = .ok (.iload_n 1, 1) := by decide +kernel
theorem dX7_round_18 : decode cX7_round 18 = .ok (.iconst 1, 1) := by decide +kernel
theorem dX7_round_19 : decode cX7_round 19 = .ok (.invokevirtual 37, 3) := by decide +kernel
theorem dX7_round_22 : decode cX7_round 22 = .ok (.invokevirtual 160, 3) := by decide +kernel
theorem dX7_round_25 : decode cX7_round 25 = .ok (.istore 4, 2) := by decide +kernel
theorem dX7_round_27 : decode cX7_round 27 = .ok (.iload 4, 2) := by decide +kernel
theorem dX7_round_29 : decode cX7_round 29 = .ok (.ifCond .eq 26, 3) := by decide +kernel
theorem dX7_round_32 : decode cX7_round 32 = .ok (.iload_n 2, 1) := by decide +kernel
theorem dX7_round_33 : decode cX7_round 33 = .ok (.iconst (-1), 1) := by decide +kernel
theorem dX7_round_34 : decode cX7_round 34 = .ok (.if_icmp .eq 17, 3) := by decide +kernel
theorem dX7_round_37 : decode cX7_round 37 = .ok (.aload_n 0, 1) := by decide +kernel
theorem dX7_round_38 : decode cX7_round 38 = .ok (.iload_n 2, 1) := by decide +kernel
theorem dX7_round_39 : decode cX7_round 39 = .ok (.aload_n 0, 1) := by decide +kernel
theorem dX7_round_40 : decode cX7_round 40 = .ok (.iload_n 3, 1) := by decide +kernel
theorem dX7_round_41 : decode cX7_round 41 = .ok (.iconst 1, 1) := by decide +kernel
theorem dX7_round_42 : decode cX7_round 42 = .ok (.invokevirtual 37, 3) := by decide +kernel
theorem dX7_round_45 : decode cX7_round 45 = .ok (.invokevirtual 160, 3) := by decide +kernel
theorem dX7_round_48 : decode cX7_round 48 = .ok (.ifCond .eq 7, 3) := by decide +kernel
theorem dX7_round_51 : decode cX7_round 51 = .ok (.iload_n 3, 1) := by decide +kernel
theorem dX7_round_52 : decode cX7_round 52 = .ok (.goto 4, 3) := by decide +kernel
theorem dX7_round_55 : decode cX7_round 55 = .ok (.iload_n 2, 1) := by decide +kernel
theorem dX7_round_56 : decode cX7_round 56 = .ok (.istore_n 2, 1) := by decide +kernel
theorem dX7_round_57 : decode cX7_round 57 = .ok (.iinc 3 1, 3) := by decide +kernel
theorem dX7_round_60 : decode cX7_round 60 = .ok (.goto (-56), 3) := by decide +kernel
theorem dX7_round_63 : decode cX7_round 63 = .ok (.iload_n 2, 1) := by decide +kernel
theorem dX7_round_64 : decode cX7_round 64 = .ok (.ireturn, 1) := by decide +kernel
set_option maxRecDepth 200000 in
theorem ggX7_lineRound_X7_knows : GoodIn wsX7_lineRound wsX7_knows := goodIn_r _ [5, 6, 7, 8, 9, 4, 10, 11, 12, 13, 14, 49, 50, 51, 52, 53, 54, 55, 56, 57, 58, 59, 60, 61] rfl (by decide +kernel)
set_option maxRecDepth 200000 in
theorem gX7_lineRound_X7_knows : GoodIn wsX7_lineRound (wsV RX7 146 RX7 yX7_knows wsX7_knows) := goodIn_app (goodIn_of _ (by decide +kernel)) ggX7_lineRound_X7_knows
set_option maxRecDepth 200000 in
theorem ggX7_lineRound_X7_round : GoodIn wsX7_lineRound wsX7_round := goodIn_r _ [18, 11, 19, 20, 21, 4, 22, 23, 24, 25, 26, 27, 28, 29, 30, 31, 32, 33, 34, 35, 36, 37, 38, 39, 40, 41, 12, 13, 14, 42, 43, 44, 45, 46, 47, 48, 49, 50, 51, 52, 53, 54, 55, 56, 57, 58, 59, 60, 61] rfl (by decide +kernel)
set_option maxRecDepth 200000 in
theorem gX7_lineRound_X7_round : GoodIn wsX7_lineRound (wsV RX7 166 RX7 yX7_round wsX7_round) := goodIn_app (goodIn_of _ (by decide +kernel)) ggX7_lineRound_X7_round
theorem dX7_lineRound_0 : decode cX7_lineRound 0 = .ok (.aload_n 0, 1) := by decide +kernel
theorem dX7_lineRound_1 : decode cX7_lineRound 1 = .ok (.iload_n 1, 1) := by decide +kernel
theorem dX7_lineRound_2 : decode cX7_lineRound 2 = .ok (.invokevirtual 146, 3) := by decide +kernel
theorem dX7_lineRound_5 : decode cX7_lineRound 5 = .ok (.ifCond .eq 11, 3) := by decide +kernel
theorem dX7_lineRound_8 : decode cX7_lineRound 8 = .ok (.aload_n 0, 1) := by decide +kernel
theorem dX7_lineRound_9 : decode cX7_lineRound 9 = .ok (.iload_n 1, 1) := by decide +kernel
theorem dX7_lineRound_10 : decode cX7_lineRound 10 = .ok (.invokevirtual 166, 3) := by decide +kernel
theorem dX7_lineRound_13 : decode cX7_lineRound 13 = .ok (.goto 4, 3) := by decide +kernel
theorem dX7_lineRound_16 : decode cX7_lineRound 16 = .ok (.iconst 0, 1) := by decide +kernel
theorem dX7_lineRound_17 : decode cX7_lineRound 17 = .ok (.ireturn, 1) := by decide +kernel
set_option maxRecDepth 200000 in
theorem ggX7_isSteady_X7_knows : GoodIn wsX7_isSteady wsX7_knows := goodIn_r _ [5, 6, 7, 8, 9, 4, 10, 11, 12, 13, 14, 52, 53, 54, 55, 56, 57, 58, 59, 60, 61, 62, 63, 64] rfl (by decide +kernel)
set_option maxRecDepth 200000 in
theorem gX7_isSteady_X7_knows : GoodIn wsX7_isSteady (wsV RX7 146 RX7 yX7_knows wsX7_knows) := goodIn_app (goodIn_of _ (by decide +kernel)) ggX7_isSteady_X7_knows
set_option maxRecDepth 200000 in
theorem ggX7_isSteady_X7_round : GoodIn wsX7_isSteady wsX7_round := goodIn_r _ [18, 11, 19, 20, 21, 4, 22, 23, 24, 25, 26, 27, 28, 29, 30, 31, 32, 33, 34, 35, 36, 37, 38, 39, 40, 41, 12, 13, 14, 42, 43, 44, 45, 46, 47, 48, 52, 53, 54, 55, 56, 57, 58, 59, 60, 61, 62, 63, 64] rfl (by decide +kernel)
set_option maxRecDepth 200000 in
theorem gX7_isSteady_X7_round : GoodIn wsX7_isSteady (wsV RX7 166 RX7 yX7_round wsX7_round) := goodIn_app (goodIn_of _ (by decide +kernel)) ggX7_isSteady_X7_round
set_option maxRecDepth 200000 in
theorem ggX7_isSteady_X7_of : GoodIn wsX7_isSteady wsX7_of := goodIn_r _ [22, 11, 52, 53, 54, 55, 56, 57, 58, 59, 60, 61, 62, 63, 64] rfl (by decide +kernel)
set_option maxRecDepth 200000 in
theorem gX7_isSteady_X7_of : GoodIn wsX7_isSteady (wsV RX7 37 RX7 yX7_of wsX7_of) := goodIn_app (goodIn_of _ (by decide +kernel)) ggX7_isSteady_X7_of
set_option maxRecDepth 200000 in
theorem ggX7_isSteady_X7_apart : GoodIn wsX7_isSteady wsX7_apart := goodIn_r _ [51] rfl (by decide +kernel)
set_option maxRecDepth 200000 in
theorem gX7_isSteady_X7_apart : GoodIn wsX7_isSteady (va_wsS RX7 61 yX7_apart wsX7_apart) := goodIn_app (goodIn_of _ (by decide +kernel)) ggX7_isSteady_X7_apart
theorem dX7_isSteady_0 : decode cX7_isSteady 0 = .ok (.aload_n 0, 1) := by decide +kernel
theorem dX7_isSteady_1 : decode cX7_isSteady 1 = .ok (.iload_n 1, 1) := by decide +kernel
theorem dX7_isSteady_2 : decode cX7_isSteady 2 = .ok (.invokevirtual 146, 3) := by decide +kernel
theorem dX7_isSteady_5 : decode cX7_isSteady 5 = .ok (.ifCond .ne 5, 3) := by decide +kernel
theorem dX7_isSteady_8 : decode cX7_isSteady 8 = .ok (.iconst 0, 1) := by decide +kernel
theorem dX7_isSteady_9 : decode cX7_isSteady 9 = .ok (.ireturn, 1) := by decide +kernel
theorem dX7_isSteady_10 : decode cX7_isSteady 10 = .ok (.aload_n 0, 1) := by decide +kernel
theorem dX7_isSteady_11 : decode cX7_isSteady 11 = .ok (.iload_n 1, 1) := by decide +kernel
theorem dX7_isSteady_12 : decode cX7_isSteady 12 = .ok (.invokevirtual 166, 3) := by decide +kernel
theorem dX7_isSteady_15 : decode cX7_isSteady 15 = .ok (.istore_n 2, 1) := by decide +kernel
theorem dX7_isSteady_16 : decode cX7_isSteady 16 = .ok (.iload_n 2, 1) := by decide +kernel
theorem dX7_isSteady_17 : decode cX7_isSteady 17 = .ok (.iconst (-1), 1) := by decide +kernel
theorem dX7_isSteady_18 : decode cX7_isSteady 18 = .ok (.if_icmp .eq 22, 3) := by decide +kernel
theorem dX7_isSteady_21 : decode cX7_isSteady 21 = .ok (.aload_n 0, 1) := by decide +kernel
theorem dX7_isSteady_22 : decode cX7_isSteady 22 = .ok (.iload_n 1, 1) := by decide +kernel
theorem dX7_isSteady_23 : decode cX7_isSteady 23 = .ok (.iconst 0, 1) := by decide +kernel
theorem dX7_isSteady_24 : decode cX7_isSteady 24 = .ok (.invokevirtual 37, 3) := by decide +kernel
theorem dX7_isSteady_27 : decode cX7_isSteady 27 = .ok (.aload_n 0, 1) := by decide +kernel
theorem dX7_isSteady_28 : decode cX7_isSteady 28 = .ok (.iload_n 2, 1) := by decide +kernel
theorem dX7_isSteady_29 : decode cX7_isSteady 29 = .ok (.iconst 0, 1) := by decide +kernel
theorem dX7_isSteady_30 : decode cX7_isSteady 30 = .ok (.invokevirtual 37, 3) := by decide +kernel
theorem dX7_isSteady_33 : decode cX7_isSteady 33 = .ok (.invokestatic 61, 3) := by decide +kernel
theorem dX7_isSteady_36 : decode cX7_isSteady 36 = .ok (.iconst 5, 1) := by decide +kernel
theorem dX7_isSteady_37 : decode cX7_isSteady 37 = .ok (.if_icmp .ne 7, 3) := by decide +kernel
theorem dX7_isSteady_40 : decode cX7_isSteady 40 = .ok (.iconst 1, 1) := by decide +kernel
theorem dX7_isSteady_41 : decode cX7_isSteady 41 = .ok (.goto 4, 3) := by decide +kernel
theorem dX7_isSteady_44 : decode cX7_isSteady 44 = .ok (.iconst 0, 1) := by decide +kernel
theorem dX7_isSteady_45 : decode cX7_isSteady 45 = .ok (.ireturn, 1) := by decide +kernel
set_option maxRecDepth 200000 in
theorem ggX7_lineByLevel_X7_in : GoodIn wsX7_lineByLevel wsX7_in := goodIn_r _ [6] rfl (by decide +kernel)
set_option maxRecDepth 200000 in
theorem gX7_lineByLevel_X7_in : GoodIn wsX7_lineByLevel (va_wsS RX7 26 yX7_in wsX7_in) := goodIn_app (goodIn_of _ (by decide +kernel)) ggX7_lineByLevel_X7_in
set_option maxRecDepth 200000 in
theorem ggX7_lineByLevel_X7_byLevel : GoodIn wsX7_lineByLevel wsX7_byLevel := goodIn_r _ [10, 2, 11, 12, 13, 5, 14, 19, 20, 21, 22, 23, 24, 25, 26, 27, 28, 29, 30, 31] rfl (by decide +kernel)
set_option maxRecDepth 200000 in
theorem gX7_lineByLevel_X7_byLevel : GoodIn wsX7_lineByLevel (wsV RX7 111 RX7 yX7_byLevel wsX7_byLevel) := goodIn_app (goodIn_of _ (by decide +kernel)) ggX7_lineByLevel_X7_byLevel
set_option maxRecDepth 200000 in
theorem ggX7_lineByLevel_X7_fails : GoodIn wsX7_lineByLevel wsX7_fails := goodIn_r _ [18, 1, 19, 20, 21, 22, 23, 24, 25, 26, 27, 28, 29, 30, 31] rfl (by decide +kernel)
set_option maxRecDepth 200000 in
theorem gX7_lineByLevel_X7_fails : GoodIn wsX7_lineByLevel (wsV RX7 137 RX7 yX7_fails wsX7_fails) := goodIn_app (goodIn_of _ (by decide +kernel)) ggX7_lineByLevel_X7_fails
theorem dX7_lineByLevel_0 : decode cX7_lineByLevel 0 = .ok (.aload_n 0, 1) := by decide +kernel
theorem dX7_lineByLevel_1 : decode cX7_lineByLevel 1 = .ok (.iconst 0, 1) := by decide +kernel
theorem dX7_lineByLevel_2 : decode cX7_lineByLevel 2 = .ok (.putfield 22, 3) := by decide +kernel
theorem dX7_lineByLevel_5 : decode cX7_lineByLevel 5 = .ok (.iload_n 1, 1) := by decide +kernel
theorem dX7_lineByLevel_6 : decode cX7_lineByLevel 6 = .ok (.iconst 0, 1) := by decide +kernel
theorem dX7_lineByLevel_7 : decode cX7_lineByLevel 7 = .ok (.aload_n 0, 1) := by decide +kernel
theorem dX7_lineByLevel_8 : decode cX7_lineByLevel 8 = .ok (.getfield 7, 3) := by decide +kernel
theorem dX7_lineByLevel_11 : decode cX7_lineByLevel 11 = .ok (.iconst 0, 1) := by decide +kernel
theorem dX7_lineByLevel_12 : decode cX7_lineByLevel 12 = .ok (.iaload, 1) := by decide +kernel
theorem dX7_lineByLevel_13 : decode cX7_lineByLevel 13 = .ok (.iconst 1, 1) := by decide +kernel
theorem dX7_lineByLevel_14 : decode cX7_lineByLevel 14 = .ok (.isub, 1) := by decide +kernel
theorem dX7_lineByLevel_15 : decode cX7_lineByLevel 15 = .ok (.invokestatic 26, 3) := by decide +kernel
theorem dX7_lineByLevel_18 : decode cX7_lineByLevel 18 = .ok (.ifCond .eq 11, 3) := by decide +kernel
theorem dX7_lineByLevel_21 : decode cX7_lineByLevel 21 = .ok (.aload_n 0, 1) := by decide +kernel
theorem dX7_lineByLevel_22 : decode cX7_lineByLevel 22 = .ok (.iload_n 1, 1) := by decide +kernel
theorem dX7_lineByLevel_23 : decode cX7_lineByLevel 23 = .ok (.invokevirtual 111, 3) := by decide +kernel
theorem dX7_lineByLevel_26 : decode cX7_lineByLevel 26 = .ok (.goto 8, 3) := by decide +kernel
theorem dX7_lineByLevel_29 : decode cX7_lineByLevel 29 = .ok (.aload_n 0, 1) := by decide +kernel
theorem dX7_lineByLevel_30 : decode cX7_lineByLevel 30 = .ok (.iconst 1, 1) := by decide +kernel
theorem dX7_lineByLevel_31 : decode cX7_lineByLevel 31 = .ok (.invokevirtual 137, 3) := by decide +kernel
theorem dX7_lineByLevel_34 : decode cX7_lineByLevel 34 = .ok (.ireturn, 1) := by decide +kernel
set_option maxRecDepth 200000 in
theorem ggX7_append_X7_in : GoodIn wsX7_append wsX7_in := goodIn_r _ [7] rfl (by decide +kernel)
set_option maxRecDepth 200000 in
theorem gX7_append_X7_in : GoodIn wsX7_append (va_wsS RX7 26 yX7_in wsX7_in) := goodIn_app (goodIn_of _ (by decide +kernel)) ggX7_append_X7_in
set_option maxRecDepth 200000 in
theorem ggX7_append_X7_fails : GoodIn wsX7_append wsX7_fails := goodIn_r _ [11, 1, 12, 13, 14, 15, 16, 17, 18, 19, 20, 21, 22, 23, 24] rfl (by decide +kernel)
set_option maxRecDepth 200000 in
theorem gX7_append_X7_fails : GoodIn wsX7_append (wsV RX7 137 RX7 yX7_fails wsX7_fails) := goodIn_app (goodIn_of _ (by decide +kernel)) ggX7_append_X7_fails
theorem dX7_append_0 : decode cX7_append 0 = .ok (.aload_n 0, 1) := by decide +kernel
theorem dX7_append_1 : decode cX7_append 1 = .ok (.iconst 0, 1) := by decide +kernel
theorem dX7_append_2 : decode cX7_append 2 = .ok (.putfield 22, 3) := by decide +kernel
theorem dX7_append_5 : decode cX7_append 5 = .ok (.iload_n 1, 1) := by decide +kernel
theorem dX7_append_6 : decode cX7_append 6 = .ok (.bipush 32, 2) := by decide +kernel
theorem dX7_append_8 : decode cX7_append 8 = .ok (.bipush 126, 2) := by decide +kernel
theorem dX7_append_10 : decode cX7_append 10 = .ok (.invokestatic 26, 3) := by decide +kernel
theorem dX7_append_13 : decode cX7_append 13 = .ok (.ifCond .ne 9, 3) := by decide +kernel
theorem dX7_append_16 : decode cX7_append 16 = .ok (.aload_n 0, 1) := by decide +kernel
theorem dX7_append_17 : decode cX7_append 17 = .ok (.iconst 1, 1) := by decide +kernel
theorem dX7_append_18 : decode cX7_append 18 = .ok (.invokevirtual 137, 3) := by decide +kernel
theorem dX7_append_21 : decode cX7_append 21 = .ok (.ireturn, 1) := by decide +kernel
theorem dX7_append_22 : decode cX7_append 22 = .ok (.aload_n 0, 1) := by decide +kernel
theorem dX7_append_23 : decode cX7_append 23 = .ok (.getfield 169, 3) := by decide +kernel
theorem dX7_append_26 : decode cX7_append 26 = .ok (.bipush 60, 2) := by decide +kernel
theorem dX7_append_28 : decode cX7_append 28 = .ok (.if_icmp .ne 9, 3) := by decide +kernel
theorem dX7_append_31 : decode cX7_append 31 = .ok (.aload_n 0, 1) := by decide +kernel
theorem dX7_append_32 : decode cX7_append 32 = .ok (.iconst 2, 1) := by decide +kernel
theorem dX7_append_33 : decode cX7_append 33 = .ok (.invokevirtual 137, 3) := by decide +kernel
theorem dX7_append_36 : decode cX7_append 36 = .ok (.ireturn, 1) := by decide +kernel
theorem dX7_append_37 : decode cX7_append 37 = .ok (.aload_n 0, 1) := by decide +kernel
theorem dX7_append_38 : decode cX7_append 38 = .ok (.getfield 19, 3) := by decide +kernel
theorem dX7_append_41 : decode cX7_append 41 = .ok (.aload_n 0, 1) := by decide +kernel
theorem dX7_append_42 : decode cX7_append 42 = .ok (.getfield 169, 3) := by decide +kernel
theorem dX7_append_45 : decode cX7_append 45 = .ok (.iload_n 1, 1) := by decide +kernel
theorem dX7_append_46 : decode cX7_append 46 = .ok (.iastore, 1) := by decide +kernel
theorem dX7_append_47 : decode cX7_append 47 = .ok (.aload_n 0, 1) := by decide +kernel
theorem dX7_append_48 : decode cX7_append 48 = .ok (.dup, 1) := by decide +kernel
theorem dX7_append_49 : decode cX7_append 49 = .ok (.getfield 169, 3) := by decide +kernel
theorem dX7_append_52 : decode cX7_append 52 = .ok (.iconst 1, 1) := by decide +kernel
theorem dX7_append_53 : decode cX7_append 53 = .ok (.iadd, 1) := by decide +kernel
theorem dX7_append_54 : decode cX7_append 54 = .ok (.putfield 169, 3) := by decide +kernel
theorem dX7_append_57 : decode cX7_append 57 = .ok (.aload_n 0, 1) := by decide +kernel
theorem dX7_append_58 : decode cX7_append 58 = .ok (.getfield 169, 3) := by decide +kernel
theorem dX7_append_61 : decode cX7_append 61 = .ok (.ireturn, 1) := by decide +kernel
theorem dX7_clearText_0 : decode cX7_clearText 0 = .ok (.aload_n 0, 1) := by decide +kernel
theorem dX7_clearText_1 : decode cX7_clearText 1 = .ok (.iconst 0, 1) := by decide +kernel
theorem dX7_clearText_2 : decode cX7_clearText 2 = .ok (.putfield 22, 3) := by decide +kernel
theorem dX7_clearText_5 : decode cX7_clearText 5 = .ok (.aload_n 0, 1) := by decide +kernel
theorem dX7_clearText_6 : decode cX7_clearText 6 = .ok (.getfield 169, 3) := by decide +kernel
theorem dX7_clearText_9 : decode cX7_clearText 9 = .ok (.istore_n 1, 1) := by decide +kernel
theorem dX7_clearText_10 : decode cX7_clearText 10 = .ok (.aload_n 0, 1) := by decide +kernel
theorem dX7_clearText_11 : decode cX7_clearText 11 = .ok (.iconst 0, 1) := by decide +kernel
theorem dX7_clearText_12 : decode cX7_clearText 12 = .ok (.putfield 169, 3) := by decide +kernel
theorem dX7_clearText_15 : decode cX7_clearText 15 = .ok (.iload_n 1, 1) := by decide +kernel
theorem dX7_clearText_16 : decode cX7_clearText 16 = .ok (.ireturn, 1) := by decide +kernel
theorem dX7_sign_0 : decode cX7_sign 0 = .ok (.aload_n 0, 1) := by decide +kernel
theorem dX7_sign_1 : decode cX7_sign 1 = .ok (.getfield 172, 3) := by decide +kernel
theorem dX7_sign_4 : decode cX7_sign 4 = .ok (.aload_n 0, 1) := by decide +kernel
theorem dX7_sign_5 : decode cX7_sign 5 = .ok (.getfield 169, 3) := by decide +kernel
theorem dX7_sign_8 : decode cX7_sign 8 = .ok (.if_icmp .ge 15, 3) := by decide +kernel
theorem dX7_sign_11 : decode cX7_sign 11 = .ok (.aload_n 0, 1) := by decide +kernel
theorem dX7_sign_12 : decode cX7_sign 12 = .ok (.getfield 19, 3) := by decide +kernel
theorem dX7_sign_15 : decode cX7_sign 15 = .ok (.aload_n 0, 1) := by decide +kernel
theorem dX7_sign_16 : decode cX7_sign 16 = .ok (.getfield 172, 3) := by decide +kernel
theorem dX7_sign_19 : decode cX7_sign 19 = .ok (.iaload, 1) := by decide +kernel
theorem dX7_sign_20 : decode cX7_sign 20 = .ok (.goto 4, 3) := by decide +kernel
theorem dX7_sign_23 : decode cX7_sign 23 = .ok (.iconst 0, 1) := by decide +kernel
theorem dX7_sign_24 : decode cX7_sign 24 = .ok (.ireturn, 1) := by decide +kernel
set_option maxRecDepth 200000 in
theorem ggX7_needs_X7_sign : GoodIn wsX7_needs wsX7_sign := goodIn_r _ [7, 2, 8, 9, 10, 11, 12, 13, 14, 15, 16, 17, 18, 19, 20, 21, 22] rfl (by decide +kernel)
set_option maxRecDepth 200000 in
theorem gX7_needs_X7_sign : GoodIn wsX7_needs (wsV RX7 179 RX7 yX7_sign wsX7_sign) := goodIn_app (goodIn_of _ (by decide +kernel)) ggX7_needs_X7_sign
theorem dX7_needs_0 : decode cX7_needs 0 = .ok (.aload_n 0, 1) := by decide +kernel
theorem dX7_needs_1 : decode cX7_needs 1 = .ok (.aload_n 0, 1) := by decide +kernel
theorem dX7_needs_2 : decode cX7_needs 2 = .ok (.getfield 175, 3) := by decide +kernel
theorem dX7_needs_5 : decode cX7_needs 5 = .ok (.ifCond .eq 15, 3) := by decide +kernel
theorem dX7_needs_8 : decode cX7_needs 8 = .ok (.aload_n 0, 1) := by decide +kernel
theorem dX7_needs_9 : decode cX7_needs 9 = .ok (.invokevirtual 179, 3) := by decide +kernel
theorem dX7_needs_12 : decode cX7_needs 12 = .ok (.iload_n 1, 1) := by decide +kernel
theorem dX7_needs_13 : decode cX7_needs 13 = .ok (.if_icmp .ne 7, 3) := by decide +kernel
theorem dX7_needs_16 : decode cX7_needs 16 = .ok (.iconst 1, 1) := by decide +kernel
theorem dX7_needs_17 : decode cX7_needs 17 = .ok (.goto 4, 3) := by decide +kernel
theorem dX7_needs_20 : decode cX7_needs 20 = .ok (.iconst 0, 1) := by decide +kernel
theorem dX7_needs_21 : decode cX7_needs 21 = .ok (.putfield 175, 3) := by decide +kernel
theorem dX7_needs_24 : decode cX7_needs 24 = .ok (.aload_n 0, 1) := by decide +kernel
theorem dX7_needs_25 : decode cX7_needs 25 = .ok (.dup, 1) := by decide +kernel
theorem dX7_needs_26 : decode cX7_needs 26 = .ok (.getfield 172, 3) := by decide +kernel
theorem dX7_needs_29 : decode cX7_needs 29 = .ok (.aload_n 0, 1) := by decide +kernel
theorem dX7_needs_30 : decode cX7_needs 30 = .ok (.getfield 175, 3) := by decide +kernel
theorem dX7_needs_33 : decode cX7_needs 33 = .ok (.ifCond .eq 7, 3) := by decide +kernel
theorem dX7_needs_36 : decode cX7_needs 36 = .ok (.iconst 1, 1) := by decide +kernel
theorem dX7_needs_37 : decode cX7_needs 37 = .ok (.goto 4, 3) := by decide +kernel
theorem dX7_needs_40 : decode cX7_needs 40 = .ok (.iconst 0, 1) := by decide +kernel
theorem dX7_needs_41 : decode cX7_needs 41 = .ok (.iadd, 1) := by decide +kernel
theorem dX7_needs_42 : decode cX7_needs 42 = .ok (.putfield 172, 3) := by decide +kernel
theorem dX7_needs_45 : decode cX7_needs 45 = .ok (.return_, 1) := by decide +kernel
set_option maxRecDepth 200000 in
theorem ggX7_number_X7_sign : GoodIn wsX7_number wsX7_sign := goodIn_r _ [7, 2, 8, 9, 13, 14, 15, 16, 17, 18, 19, 20, 21, 22, 23, 24, 25] rfl (by decide +kernel)
set_option maxRecDepth 200000 in
theorem gX7_number_X7_sign : GoodIn wsX7_number (wsV RX7 179 RX7 yX7_sign wsX7_sign) := goodIn_app (goodIn_of _ (by decide +kernel)) ggX7_number_X7_sign
set_option maxRecDepth 200000 in
theorem ggX7_number_X7_in : GoodIn wsX7_number wsX7_in := goodIn_r _ [12] rfl (by decide +kernel)
set_option maxRecDepth 200000 in
theorem gX7_number_X7_in : GoodIn wsX7_number (va_wsS RX7 26 yX7_in wsX7_in) := goodIn_app (goodIn_of _ (by decide +kernel)) ggX7_number_X7_in
theorem dX7_number_0 : decode cX7_number 0 = .ok (.aload_n 0, 1) := by decide +kernel
theorem dX7_number_1 : decode cX7_number 1 = .ok (.invokevirtual 179, 3) := by decide +kernel
theorem dX7_number_4 : decode cX7_number 4 = .ok (.bipush 48, 2) := by decide +kernel
theorem dX7_number_6 : decode cX7_number 6 = .ok (.isub, 1) := by decide +kernel
theorem dX7_number_7 : decode cX7_number 7 = .ok (.istore_n 3, 1) := by decide +kernel
theorem dX7_number_8 : decode cX7_number 8 = .ok (.aload_n 0, 1) := by decide +kernel
theorem dX7_number_9 : decode cX7_number 9 = .ok (.aload_n 0, 1) := by decide +kernel
theorem dX7_number_10 : decode cX7_number 10 = .ok (.getfield 175, 3) := by decide +kernel
theorem dX7_number_13 : decode cX7_number 13 = .ok (.ifCond .eq 26, 3) := by decide +kernel
theorem dX7_number_16 : decode cX7_number 16 = .ok (.iload_n 3, 1) := by decide +kernel
theorem dX7_number_17 : decode cX7_number 17 = .ok (.iconst 0, 1) := by decide +kernel
theorem dX7_number_18 : decode cX7_number 18 = .ok (.bipush 9, 2) := by decide +kernel
theorem dX7_number_20 : decode cX7_number 20 = .ok (.invokestatic 26, 3) := by decide +kernel
theorem dX7_number_23 : decode cX7_number 23 = .ok (.ifCond .eq 16, 3) := by decide +kernel
theorem dX7_number_26 : decode cX7_number 26 = .ok (.iload_n 3, 1) := by decide +kernel
theorem dX7_number_27 : decode cX7_number 27 = .ok (.iload_n 1, 1) := by decide +kernel
theorem dX7_number_28 : decode cX7_number 28 = .ok (.iload_n 2, 1) := by decide +kernel
theorem dX7_number_29 : decode cX7_number 29 = .ok (.invokestatic 26, 3) := by decide +kernel
theorem dX7_number_32 : decode cX7_number 32 = .ok (.ifCond .eq 7, 3) := by decide +kernel
theorem dX7_number_35 : decode cX7_number 35 = .ok (.iconst 1, 1) := by decide +kernel
theorem dX7_number_36 : decode cX7_number 36 = .ok (.goto 4, 3) := by decide +kernel
theorem dX7_number_39 : decode cX7_number 39 = .ok (.iconst 0, 1) := by decide +kernel
theorem dX7_number_40 : decode cX7_number 40 = .ok (.putfield 175, 3) := by decide +kernel
theorem dX7_number_43 : decode cX7_number 43 = .ok (.aload_n 0, 1) := by decide +kernel
theorem dX7_number_44 : decode cX7_number 44 = .ok (.dup, 1) := by decide +kernel
theorem dX7_number_45 : decode cX7_number 45 = .ok (.getfield 172, 3) := by decide +kernel
theorem dX7_number_48 : decode cX7_number 48 = .ok (.aload_n 0, 1) := by decide +kernel
theorem dX7_number_49 : decode cX7_number 49 = .ok (.getfield 175, 3) := by decide +kernel
theorem dX7_number_52 : decode cX7_number 52 = .ok (.ifCond .eq 7, 3) := by decide +kernel
theorem dX7_number_55 : decode cX7_number 55 = .ok (.iconst 1, 1) := by decide +kernel
theorem dX7_number_56 : decode cX7_number 56 = .ok (.goto 4, 3) := by decide +kernel
theorem dX7_number_59 : decode cX7_number 59 = .ok (.iconst 0, 1) := by decide +kernel
theorem dX7_number_60 : decode cX7_number 60 = .ok (.iadd, 1) := by decide +kernel
theorem dX7_number_61 : decode cX7_number 61 = .ok (.putfield 172, 3) := by decide +kernel
theorem dX7_number_64 : decode cX7_number 64 = .ok (.aload_n 0, 1) := by decide +kernel
theorem dX7_number_65 : decode cX7_number 65 = .ok (.getfield 175, 3) := by decide +kernel
theorem dX7_number_68 : decode cX7_number 68 = .ok (.ifCond .eq 63, 3) := by decide +kernel
theorem dX7_number_71 : decode cX7_number 71 = .ok (.iload_n 3, 1) := by decide +kernel
theorem dX7_number_72 : decode cX7_number 72 = .ok (.ifCond .le 59, 3) := by decide +kernel
theorem dX7_number_75 : decode cX7_number 75 = .ok (.aload_n 0, 1) := by decide +kernel
theorem dX7_number_76 : decode cX7_number 76 = .ok (.invokevirtual 179, 3) := by decide +kernel
theorem dX7_number_79 : decode cX7_number 79 = .ok (.bipush 48, 2) := by decide +kernel
theorem dX7_number_81 : decode cX7_number 81 = .ok (.bipush 57, 2) := by decide +kernel
theorem dX7_number_83 : decode cX7_number 83 = .ok (.invokestatic 26, 3) := by decide +kernel
theorem dX7_number_86 : decode cX7_number 86 = .ok (.ifCond .eq 45, 3) := by decide +kernel
theorem dX7_number_89 : decode cX7_number 89 = .ok (.bipush 10, 2) := by decide +kernel
theorem dX7_number_91 : decode cX7_number 91 = .ok (.iload_n 3, 1) := by decide +kernel
theorem dX7_number_92 : decode cX7_number 92 = .ok (.imul, 1) := by decide +kernel
theorem dX7_number_93 : decode cX7_number 93 = .ok (.aload_n 0, 1) := by decide +kernel
theorem dX7_number_94 : decode cX7_number 94 = .ok (.invokevirtual 179, 3) := by decide +kernel
theorem dX7_number_97 : decode cX7_number 97 = .ok (.iadd, 1) := by decide +kernel
theorem dX7_number_98 : decode cX7_number 98 = .ok (.bipush 48, 2) := by decide +kernel
theorem dX7_number_100 : decode cX7_number 100 = .ok (.isub, 1) := by decide +kernel
theorem dX7_number_101 : decode cX7_number 101 = .ok (.iload_n 2, 1) := by decide +kernel
theorem dX7_number_102 : decode cX7_number 102 = .ok (.if_icmp .gt 29, 3) := by decide +kernel
theorem dX7_number_105 : decode cX7_number 105 = .ok (.bipush 10, 2) := by decide +kernel
theorem dX7_number_107 : decode cX7_number 107 = .ok (.iload_n 3, 1) := by decide +kernel
theorem dX7_number_108 : decode cX7_number 108 = .ok (.imul, 1) := by decide +kernel
theorem dX7_number_109 : decode cX7_number 109 = .ok (.aload_n 0, 1) := by decide +kernel
theorem dX7_number_110 : decode cX7_number 110 = .ok (.invokevirtual 179, 3) := by decide +kernel
theorem dX7_number_113 : decode cX7_number 113 = .ok (.iadd, 1) := by decide +kernel
theorem dX7_number_114 : decode cX7_number 114 = .ok (.bipush 48, 2) := by decide +kernel
theorem dX7_number_116 : decode cX7_number 116 = .ok (.isub, 1) := by decide +kernel
theorem dX7_number_117 : decode cX7_number 117 = .ok (.istore_n 3, 1) := by decide +kernel
theorem dX7_number_118 : decode cX7_number 118 = .ok (.aload_n 0, 1) := by decide +kernel
theorem dX7_number_119 : decode cX7_number 119 = .ok (.dup, 1) := by decide +kernel
theorem dX7_number_120 : decode cX7_number 120 = .ok (.getfield 172, 3) := by decide +kernel
theorem dX7_number_123 : decode cX7_number 123 = .ok (.iconst 1, 1) := by decide +kernel
theorem dX7_number_124 : decode cX7_number 124 = .ok (.iadd, 1) := by decide +kernel
theorem dX7_number_125 : decode cX7_number 125 = .ok (.putfield 172, 3) := by decide +kernel
theorem dX7_number_128 : decode cX7_number 128 = .ok (.goto (-64), 3) := by decide +kernel
theorem dX7_number_131 : decode cX7_number 131 = .ok (.iload_n 3, 1) := by decide +kernel
theorem dX7_number_132 : decode cX7_number 132 = .ok (.ireturn, 1) := by decide +kernel
set_option maxRecDepth 200000 in
theorem ggX7_reads_X7_sign : GoodIn wsX7_reads wsX7_sign := goodIn_r _ [10, 3, 11, 12, 24, 25, 26, 27, 28, 29, 30, 31, 32, 33, 34, 35, 36] rfl (by decide +kernel)
set_option maxRecDepth 200000 in
theorem gX7_reads_X7_sign : GoodIn wsX7_reads (wsV RX7 179 RX7 yX7_sign wsX7_sign) := goodIn_app (goodIn_of _ (by decide +kernel)) ggX7_reads_X7_sign
set_option maxRecDepth 200000 in
theorem ggX7_reads_X7_in : GoodIn wsX7_reads wsX7_in := goodIn_r _ [15] rfl (by decide +kernel)
set_option maxRecDepth 200000 in
theorem gX7_reads_X7_in : GoodIn wsX7_reads (va_wsS RX7 26 yX7_in wsX7_in) := goodIn_app (goodIn_of _ (by decide +kernel)) ggX7_reads_X7_in
set_option maxRecDepth 200000 in
theorem ggX7_reads_X7_number : GoodIn wsX7_reads wsX7_number := goodIn_r _ [19, 2, 3, 6, 7, 8, 9, 10, 11, 12, 13, 14, 15, 24, 25, 26, 27, 28, 29, 30, 31, 32, 33, 34, 35, 36] rfl (by decide +kernel)
set_option maxRecDepth 200000 in
theorem gX7_reads_X7_number : GoodIn wsX7_reads (wsV RX7 191 RX7 yX7_number wsX7_number) := goodIn_app (goodIn_of _ (by decide +kernel)) ggX7_reads_X7_number
set_option maxRecDepth 200000 in
theorem ggX7_reads_X7_needs : GoodIn wsX7_reads wsX7_needs := goodIn_r _ [23, 2, 3, 6, 7, 8, 9, 10, 11, 12, 24, 25, 26, 27, 28, 29, 30, 31, 32, 33, 34, 35, 36] rfl (by decide +kernel)
set_option maxRecDepth 200000 in
theorem gX7_reads_X7_needs : GoodIn wsX7_reads (wsV RX7 194 RX7 yX7_needs wsX7_needs) := goodIn_app (goodIn_of _ (by decide +kernel)) ggX7_reads_X7_needs
theorem dX7_reads_0 : decode cX7_reads 0 = .ok (.aload_n 0, 1) := by decide +kernel
theorem dX7_reads_1 : decode cX7_reads 1 = .ok (.aload_n 0, 1) := by decide +kernel
theorem dX7_reads_2 : decode cX7_reads 2 = .ok (.invokevirtual 179, 3) := by decide +kernel
theorem dX7_reads_5 : decode cX7_reads 5 = .ok (.putfield 182, 3) := by decide +kernel
theorem dX7_reads_8 : decode cX7_reads 8 = .ok (.aload_n 0, 1) := by decide +kernel
theorem dX7_reads_9 : decode cX7_reads 9 = .ok (.aload_n 0, 1) := by decide +kernel
theorem dX7_reads_10 : decode cX7_reads 10 = .ok (.getfield 182, 3) := by decide +kernel
theorem dX7_reads_13 : decode cX7_reads 13 = .ok (.bipush 110, 2) := by decide +kernel
theorem dX7_reads_15 : decode cX7_reads 15 = .ok (.if_icmp .eq 66, 3) := by decide +kernel
theorem dX7_reads_18 : decode cX7_reads 18 = .ok (.aload_n 0, 1) := by decide +kernel
theorem dX7_reads_19 : decode cX7_reads 19 = .ok (.getfield 182, 3) := by decide +kernel
theorem dX7_reads_22 : decode cX7_reads 22 = .ok (.bipush 115, 2) := by decide +kernel
theorem dX7_reads_24 : decode cX7_reads 24 = .ok (.if_icmp .eq 57, 3) := by decide +kernel
theorem dX7_reads_27 : decode cX7_reads 27 = .ok (.aload_n 0, 1) := by decide +kernel
theorem dX7_reads_28 : decode cX7_reads 28 = .ok (.getfield 182, 3) := by decide +kernel
theorem dX7_reads_31 : decode cX7_reads 31 = .ok (.bipush 119, 2) := by decide +kernel
theorem dX7_reads_33 : decode cX7_reads 33 = .ok (.if_icmp .eq 48, 3) := by decide +kernel
theorem dX7_reads_36 : decode cX7_reads 36 = .ok (.aload_n 0, 1) := by decide +kernel
theorem dX7_reads_37 : decode cX7_reads 37 = .ok (.getfield 182, 3) := by decide +kernel
theorem dX7_reads_40 : decode cX7_reads 40 = .ok (.bipush 108, 2) := by decide +kernel
theorem dX7_reads_42 : decode cX7_reads 42 = .ok (.if_icmp .eq 39, 3) := by decide +kernel
theorem dX7_reads_45 : decode cX7_reads 45 = .ok (.aload_n 0, 1) := by decide +kernel
theorem dX7_reads_46 : decode cX7_reads 46 = .ok (.getfield 182, 3) := by decide +kernel
theorem dX7_reads_49 : decode cX7_reads 49 = .ok (.bipush 117, 2) := by decide +kernel
theorem dX7_reads_51 : decode cX7_reads 51 = .ok (.if_icmp .eq 30, 3) := by decide +kernel
theorem dX7_reads_54 : decode cX7_reads 54 = .ok (.aload_n 0, 1) := by decide +kernel
theorem dX7_reads_55 : decode cX7_reads 55 = .ok (.getfield 182, 3) := by decide +kernel
theorem dX7_reads_58 : decode cX7_reads 58 = .ok (.bipush 98, 2) := by decide +kernel
theorem dX7_reads_60 : decode cX7_reads 60 = .ok (.if_icmp .eq 21, 3) := by decide +kernel
theorem dX7_reads_63 : decode cX7_reads 63 = .ok (.aload_n 0, 1) := by decide +kernel
theorem dX7_reads_64 : decode cX7_reads 64 = .ok (.getfield 182, 3) := by decide +kernel
theorem dX7_reads_67 : decode cX7_reads 67 = .ok (.bipush 97, 2) := by decide +kernel
theorem dX7_reads_69 : decode cX7_reads 69 = .ok (.if_icmp .eq 12, 3) := by decide +kernel
theorem dX7_reads_72 : decode cX7_reads 72 = .ok (.aload_n 0, 1) := by decide +kernel
theorem dX7_reads_73 : decode cX7_reads 73 = .ok (.getfield 182, 3) := by decide +kernel
theorem dX7_reads_76 : decode cX7_reads 76 = .ok (.bipush 103, 2) := by decide +kernel
theorem dX7_reads_78 : decode cX7_reads 78 = .ok (.if_icmp .ne 7, 3) := by decide +kernel
theorem dX7_reads_81 : decode cX7_reads 81 = .ok (.iconst 1, 1) := by decide +kernel
theorem dX7_reads_82 : decode cX7_reads 82 = .ok (.goto 4, 3) := by decide +kernel
theorem dX7_reads_85 : decode cX7_reads 85 = .ok (.iconst 0, 1) := by decide +kernel
theorem dX7_reads_86 : decode cX7_reads 86 = .ok (.putfield 175, 3) := by decide +kernel
theorem dX7_reads_89 : decode cX7_reads 89 = .ok (.aload_n 0, 1) := by decide +kernel
theorem dX7_reads_90 : decode cX7_reads 90 = .ok (.dup, 1) := by decide +kernel
theorem dX7_reads_91 : decode cX7_reads 91 = .ok (.getfield 172, 3) := by decide +kernel
theorem dX7_reads_94 : decode cX7_reads 94 = .ok (.aload_n 0, 1) := by decide +kernel
theorem dX7_reads_95 : decode cX7_reads 95 = .ok (.getfield 175, 3) := by decide +kernel
theorem dX7_reads_98 : decode cX7_reads 98 = .ok (.ifCond .eq 7, 3) := by decide +kernel
theorem dX7_reads_101 : decode cX7_reads 101 = .ok (.iconst 1, 1) := by decide +kernel
theorem dX7_reads_102 : decode cX7_reads 102 = .ok (.goto 4, 3) := by decide +kernel
theorem dX7_reads_105 : decode cX7_reads 105 = .ok (.iconst 0, 1) := by decide +kernel
theorem dX7_reads_106 : decode cX7_reads 106 = .ok (.iadd, 1) := by decide +kernel
theorem dX7_reads_107 : decode cX7_reads 107 = .ok (.putfield 172, 3) := by decide +kernel
theorem dX7_reads_110 : decode cX7_reads 110 = .ok (.aload_n 0, 1) := by decide +kernel
theorem dX7_reads_111 : decode cX7_reads 111 = .ok (.aload_n 0, 1) := by decide +kernel
theorem dX7_reads_112 : decode cX7_reads 112 = .ok (.getfield 172, 3) := by decide +kernel
theorem dX7_reads_115 : decode cX7_reads 115 = .ok (.putfield 185, 3) := by decide +kernel
theorem dX7_reads_118 : decode cX7_reads 118 = .ok (.aload_n 0, 1) := by decide +kernel
theorem dX7_reads_119 : decode cX7_reads 119 = .ok (.iconst 0, 1) := by decide +kernel
theorem dX7_reads_120 : decode cX7_reads 120 = .ok (.putfield 188, 3) := by decide +kernel
theorem dX7_reads_123 : decode cX7_reads 123 = .ok (.aload_n 0, 1) := by decide +kernel
theorem dX7_reads_124 : decode cX7_reads 124 = .ok (.getfield 182, 3) := by decide +kernel
theorem dX7_reads_127 : decode cX7_reads 127 = .ok (.bipush 115, 2) := by decide +kernel
theorem dX7_reads_129 : decode cX7_reads 129 = .ok (.if_icmp .ne 64, 3) := by decide +kernel
theorem dX7_reads_132 : decode cX7_reads 132 = .ok (.aload_n 0, 1) := by decide +kernel
theorem dX7_reads_133 : decode cX7_reads 133 = .ok (.aload_n 0, 1) := by decide +kernel
theorem dX7_reads_134 : decode cX7_reads 134 = .ok (.invokevirtual 179, 3) := by decide +kernel
theorem dX7_reads_137 : decode cX7_reads 137 = .ok (.bipush 48, 2) := by decide +kernel
theorem dX7_reads_139 : decode cX7_reads 139 = .ok (.bipush 55, 2) := by decide +kernel
theorem dX7_reads_141 : decode cX7_reads 141 = .ok (.invokestatic 26, 3) := by decide +kernel
theorem dX7_reads_144 : decode cX7_reads 144 = .ok (.putfield 175, 3) := by decide +kernel
theorem dX7_reads_147 : decode cX7_reads 147 = .ok (.aload_n 0, 1) := by decide +kernel
theorem dX7_reads_148 : decode cX7_reads 148 = .ok (.getfield 188, 3) := by decide +kernel
theorem dX7_reads_151 : decode cX7_reads 151 = .ok (.bipush 20, 2) := by decide +kernel
theorem dX7_reads_153 : decode cX7_reads 153 = .ok (.if_icmp .ge 183, 3) := by decide +kernel
theorem dX7_reads_156 : decode cX7_reads 156 = .ok (.aload_n 0, 1) := by decide +kernel
theorem dX7_reads_157 : decode cX7_reads 157 = .ok (.invokevirtual 179, 3) := by decide +kernel
theorem dX7_reads_160 : decode cX7_reads 160 = .ok (.bipush 48, 2) := by decide +kernel
theorem dX7_reads_162 : decode cX7_reads 162 = .ok (.bipush 55, 2) := by decide +kernel
theorem dX7_reads_164 : decode cX7_reads 164 = .ok (.invokestatic 26, 3) := by decide +kernel
theorem dX7_reads_167 : decode cX7_reads 167 = .ok (.ifCond .eq 169, 3) := by decide +kernel
theorem dX7_reads_170 : decode cX7_reads 170 = .ok (.aload_n 0, 1) := by decide +kernel
theorem dX7_reads_171 : decode cX7_reads 171 = .ok (.dup, 1) := by decide +kernel
theorem dX7_reads_172 : decode cX7_reads 172 = .ok (.getfield 188, 3) := by decide +kernel
theorem dX7_reads_175 : decode cX7_reads 175 = .ok (.iconst 1, 1) := by decide +kernel
theorem dX7_reads_176 : decode cX7_reads 176 = .ok (.iadd, 1) := by decide +kernel
theorem dX7_reads_177 : decode cX7_reads 177 = .ok (.putfield 188, 3) := by decide +kernel
theorem dX7_reads_180 : decode cX7_reads 180 = .ok (.aload_n 0, 1) := by decide +kernel
theorem dX7_reads_181 : decode cX7_reads 181 = .ok (.dup, 1) := by decide +kernel
theorem dX7_reads_182 : decode cX7_reads 182 = .ok (.getfield 172, 3) := by decide +kernel
theorem dX7_reads_185 : decode cX7_reads 185 = .ok (.iconst 1, 1) := by decide +kernel
theorem dX7_reads_186 : decode cX7_reads 186 = .ok (.iadd, 1) := by decide +kernel
theorem dX7_reads_187 : decode cX7_reads 187 = .ok (.putfield 172, 3) := by decide +kernel
theorem dX7_reads_190 : decode cX7_reads 190 = .ok (.goto (-43), 3) := by decide +kernel
theorem dX7_reads_193 : decode cX7_reads 193 = .ok (.aload_n 0, 1) := by decide +kernel
theorem dX7_reads_194 : decode cX7_reads 194 = .ok (.getfield 182, 3) := by decide +kernel
theorem dX7_reads_197 : decode cX7_reads 197 = .ok (.bipush 97, 2) := by decide +kernel
theorem dX7_reads_199 : decode cX7_reads 199 = .ok (.if_icmp .eq 137, 3) := by decide +kernel
theorem dX7_reads_202 : decode cX7_reads 202 = .ok (.aload_n 0, 1) := by decide +kernel
theorem dX7_reads_203 : decode cX7_reads 203 = .ok (.getfield 175, 3) := by decide +kernel
theorem dX7_reads_206 : decode cX7_reads 206 = .ok (.ifCond .eq 130, 3) := by decide +kernel
theorem dX7_reads_209 : decode cX7_reads 209 = .ok (.aload_n 0, 1) := by decide +kernel
theorem dX7_reads_210 : decode cX7_reads 210 = .ok (.aload_n 0, 1) := by decide +kernel
theorem dX7_reads_211 : decode cX7_reads 211 = .ok (.aload_n 0, 1) := by decide +kernel
theorem dX7_reads_212 : decode cX7_reads 212 = .ok (.getfield 182, 3) := by decide +kernel
theorem dX7_reads_215 : decode cX7_reads 215 = .ok (.bipush 103, 2) := by decide +kernel
theorem dX7_reads_217 : decode cX7_reads 217 = .ok (.if_icmp .ne 7, 3) := by decide +kernel
theorem dX7_reads_220 : decode cX7_reads 220 = .ok (.iconst 1, 1) := by decide +kernel
theorem dX7_reads_221 : decode cX7_reads 221 = .ok (.goto 4, 3) := by decide +kernel
theorem dX7_reads_224 : decode cX7_reads 224 = .ok (.iconst 0, 1) := by decide +kernel
theorem dX7_reads_225 : decode cX7_reads 225 = .ok (.aload_n 0, 1) := by decide +kernel
theorem dX7_reads_226 : decode cX7_reads 226 = .ok (.getfield 182, 3) := by decide +kernel
theorem dX7_reads_229 : decode cX7_reads 229 = .ok (.bipush 110, 2) := by decide +kernel
theorem dX7_reads_231 : decode cX7_reads 231 = .ok (.if_icmp .ne 8, 3) := by decide +kernel
theorem dX7_reads_234 : decode cX7_reads 234 = .ok (.bipush 99, 2) := by decide +kernel
theorem dX7_reads_236 : decode cX7_reads 236 = .ok (.goto 19, 3) := by decide +kernel
theorem dX7_reads_239 : decode cX7_reads 239 = .ok (.aload_n 0, 1) := by decide +kernel
theorem dX7_reads_240 : decode cX7_reads 240 = .ok (.getfield 182, 3) := by decide +kernel
theorem dX7_reads_243 : decode cX7_reads 243 = .ok (.bipush 103, 2) := by decide +kernel
theorem dX7_reads_245 : decode cX7_reads 245 = .ok (.if_icmp .ne 8, 3) := by decide +kernel
theorem dX7_reads_248 : decode cX7_reads 248 = .ok (.bipush 6, 2) := by decide +kernel
theorem dX7_reads_250 : decode cX7_reads 250 = .ok (.goto 5, 3) := by decide +kernel
theorem dX7_reads_253 : decode cX7_reads 253 = .ok (.bipush 7, 2) := by decide +kernel
theorem dX7_reads_255 : decode cX7_reads 255 = .ok (.invokevirtual 191, 3) := by decide +kernel
theorem dX7_reads_258 : decode cX7_reads 258 = .ok (.putfield 185, 3) := by decide +kernel
theorem dX7_reads_261 : decode cX7_reads 261 = .ok (.aload_n 0, 1) := by decide +kernel
theorem dX7_reads_262 : decode cX7_reads 262 = .ok (.getfield 182, 3) := by decide +kernel
theorem dX7_reads_265 : decode cX7_reads 265 = .ok (.bipush 110, 2) := by decide +kernel
theorem dX7_reads_267 : decode cX7_reads 267 = .ok (.if_icmp .eq 12, 3) := by decide +kernel
theorem dX7_reads_270 : decode cX7_reads 270 = .ok (.aload_n 0, 1) := by decide +kernel
theorem dX7_reads_271 : decode cX7_reads 271 = .ok (.getfield 182, 3) := by decide +kernel
theorem dX7_reads_274 : decode cX7_reads 274 = .ok (.bipush 108, 2) := by decide +kernel
theorem dX7_reads_276 : decode cX7_reads 276 = .ok (.if_icmp .ne 60, 3) := by decide +kernel
theorem dX7_reads_279 : decode cX7_reads 279 = .ok (.aload_n 0, 1) := by decide +kernel
theorem dX7_reads_280 : decode cX7_reads 280 = .ok (.aload_n 0, 1) := by decide +kernel
theorem dX7_reads_281 : decode cX7_reads 281 = .ok (.getfield 182, 3) := by decide +kernel
theorem dX7_reads_284 : decode cX7_reads 284 = .ok (.bipush 110, 2) := by decide +kernel
theorem dX7_reads_286 : decode cX7_reads 286 = .ok (.if_icmp .ne 8, 3) := by decide +kernel
theorem dX7_reads_289 : decode cX7_reads 289 = .ok (.bipush 64, 2) := by decide +kernel
theorem dX7_reads_291 : decode cX7_reads 291 = .ok (.goto 5, 3) := by decide +kernel
theorem dX7_reads_294 : decode cX7_reads 294 = .ok (.bipush 46, 2) := by decide +kernel
theorem dX7_reads_296 : decode cX7_reads 296 = .ok (.invokevirtual 194, 3) := by decide +kernel
theorem dX7_reads_299 : decode cX7_reads 299 = .ok (.aload_n 0, 1) := by decide +kernel
theorem dX7_reads_300 : decode cX7_reads 300 = .ok (.aload_n 0, 1) := by decide +kernel
theorem dX7_reads_301 : decode cX7_reads 301 = .ok (.getfield 175, 3) := by decide +kernel
theorem dX7_reads_304 : decode cX7_reads 304 = .ok (.ifCond .eq 28, 3) := by decide +kernel
theorem dX7_reads_307 : decode cX7_reads 307 = .ok (.aload_n 0, 1) := by decide +kernel
theorem dX7_reads_308 : decode cX7_reads 308 = .ok (.iconst 0, 1) := by decide +kernel
theorem dX7_reads_309 : decode cX7_reads 309 = .ok (.aload_n 0, 1) := by decide +kernel
theorem dX7_reads_310 : decode cX7_reads 310 = .ok (.getfield 182, 3) := by decide +kernel
theorem dX7_reads_313 : decode cX7_reads 313 = .ok (.bipush 110, 2) := by decide +kernel
theorem dX7_reads_315 : decode cX7_reads 315 = .ok (.if_icmp .ne 9, 3) := by decide +kernel
theorem dX7_reads_318 : decode cX7_reads 318 = .ok (.sipush 383, 3) := by decide +kernel
theorem dX7_reads_321 : decode cX7_reads 321 = .ok (.goto 5, 3) := by decide +kernel
theorem dX7_reads_324 : decode cX7_reads 324 = .ok (.bipush 59, 2) := by decide +kernel
theorem dX7_reads_326 : decode cX7_reads 326 = .ok (.invokevirtual 191, 3) := by decide +kernel
theorem dX7_reads_329 : decode cX7_reads 329 = .ok (.goto 4, 3) := by decide +kernel
theorem dX7_reads_332 : decode cX7_reads 332 = .ok (.iconst 0, 1) := by decide +kernel
theorem dX7_reads_333 : decode cX7_reads 333 = .ok (.putfield 188, 3) := by decide +kernel
theorem dX7_reads_336 : decode cX7_reads 336 = .ok (.return_, 1) := by decide +kernel
set_option maxRecDepth 200000 in
theorem ggX7_isText_X7_reads : GoodIn wsX7_isText wsX7_reads := goodIn_r _ [8, 9, 2, 1, 10, 11, 12, 13, 14, 7, 15, 3, 16, 17, 18, 19, 20, 21, 22, 23, 24, 25, 26, 27, 28, 29, 30, 31, 32, 33, 34, 35, 36, 37, 38, 39, 40] rfl (by decide +kernel)
set_option maxRecDepth 200000 in
theorem gX7_isText_X7_reads : GoodIn wsX7_isText (wsV RX7 198 RX7 yX7_reads wsX7_reads) := goodIn_app (goodIn_of _ (by decide +kernel)) ggX7_isText_X7_reads
set_option maxRecDepth 200000 in
theorem ggX7_isText_X7_needs : GoodIn wsX7_isText wsX7_needs := goodIn_r _ [27, 2, 1, 12, 13, 14, 7, 15, 3, 16, 28, 29, 30, 31, 32, 33, 34, 35, 36, 37, 38, 39, 40] rfl (by decide +kernel)
set_option maxRecDepth 200000 in
theorem gX7_isText_X7_needs : GoodIn wsX7_isText (wsV RX7 194 RX7 yX7_needs wsX7_needs) := goodIn_app (goodIn_of _ (by decide +kernel)) ggX7_isText_X7_needs
theorem dX7_isText_0 : decode cX7_isText 0 = .ok (.aload_n 0, 1) := by decide +kernel
theorem dX7_isText_1 : decode cX7_isText 1 = .ok (.iconst 0, 1) := by decide +kernel
theorem dX7_isText_2 : decode cX7_isText 2 = .ok (.putfield 172, 3) := by decide +kernel
theorem dX7_isText_5 : decode cX7_isText 5 = .ok (.aload_n 0, 1) := by decide +kernel
theorem dX7_isText_6 : decode cX7_isText 6 = .ok (.invokevirtual 198, 3) := by decide +kernel
theorem dX7_isText_9 : decode cX7_isText 9 = .ok (.aload_n 0, 1) := by decide +kernel
theorem dX7_isText_10 : decode cX7_isText 10 = .ok (.getfield 175, 3) := by decide +kernel
theorem dX7_isText_13 : decode cX7_isText 13 = .ok (.ifCond .eq 34, 3) := by decide +kernel
theorem dX7_isText_16 : decode cX7_isText 16 = .ok (.aload_n 0, 1) := by decide +kernel
theorem dX7_isText_17 : decode cX7_isText 17 = .ok (.getfield 172, 3) := by decide +kernel
theorem dX7_isText_20 : decode cX7_isText 20 = .ok (.aload_n 0, 1) := by decide +kernel
theorem dX7_isText_21 : decode cX7_isText 21 = .ok (.getfield 169, 3) := by decide +kernel
theorem dX7_isText_24 : decode cX7_isText 24 = .ok (.if_icmp .ge 23, 3) := by decide +kernel
theorem dX7_isText_27 : decode cX7_isText 27 = .ok (.aload_n 0, 1) := by decide +kernel
theorem dX7_isText_28 : decode cX7_isText 28 = .ok (.bipush 59, 2) := by decide +kernel
theorem dX7_isText_30 : decode cX7_isText 30 = .ok (.invokevirtual 194, 3) := by decide +kernel
theorem dX7_isText_33 : decode cX7_isText 33 = .ok (.aload_n 0, 1) := by decide +kernel
theorem dX7_isText_34 : decode cX7_isText 34 = .ok (.getfield 175, 3) := by decide +kernel
theorem dX7_isText_37 : decode cX7_isText 37 = .ok (.ifCond .eq (-28), 3) := by decide +kernel
theorem dX7_isText_40 : decode cX7_isText 40 = .ok (.aload_n 0, 1) := by decide +kernel
theorem dX7_isText_41 : decode cX7_isText 41 = .ok (.invokevirtual 198, 3) := by decide +kernel
theorem dX7_isText_44 : decode cX7_isText 44 = .ok (.goto (-35), 3) := by decide +kernel
theorem dX7_isText_47 : decode cX7_isText 47 = .ok (.aload_n 0, 1) := by decide +kernel
theorem dX7_isText_48 : decode cX7_isText 48 = .ok (.getfield 175, 3) := by decide +kernel
theorem dX7_isText_51 : decode cX7_isText 51 = .ok (.ireturn, 1) := by decide +kernel
set_option maxRecDepth 200000 in
theorem ggX7_errorPosition_X7_isText : GoodIn wsX7_errorPosition wsX7_isText := goodIn_r _ [8, 3, 9, 2, 10, 11, 12, 7, 13, 14, 15, 16, 17, 18, 19, 20, 21, 22, 23, 24, 25, 26, 27, 28, 29, 30, 31, 32, 33, 34, 35, 36, 37, 38, 39, 40, 41, 42, 43, 44, 45] rfl (by decide +kernel)
set_option maxRecDepth 200000 in
theorem gX7_errorPosition_X7_isText : GoodIn wsX7_errorPosition (wsV RX7 201 RX7 yX7_isText wsX7_isText) := goodIn_app (goodIn_of _ (by decide +kernel)) ggX7_errorPosition_X7_isText
theorem dX7_errorPosition_0 : decode cX7_errorPosition 0 = .ok (.aload_n 0, 1) := by decide +kernel
theorem dX7_errorPosition_1 : decode cX7_errorPosition 1 = .ok (.iconst 0, 1) := by decide +kernel
theorem dX7_errorPosition_2 : decode cX7_errorPosition 2 = .ok (.putfield 22, 3) := by decide +kernel
theorem dX7_errorPosition_5 : decode cX7_errorPosition 5 = .ok (.aload_n 0, 1) := by decide +kernel
theorem dX7_errorPosition_6 : decode cX7_errorPosition 6 = .ok (.invokevirtual 201, 3) := by decide +kernel
theorem dX7_errorPosition_9 : decode cX7_errorPosition 9 = .ok (.ifCond .eq 10, 3) := by decide +kernel
theorem dX7_errorPosition_12 : decode cX7_errorPosition 12 = .ok (.aload_n 0, 1) := by decide +kernel
theorem dX7_errorPosition_13 : decode cX7_errorPosition 13 = .ok (.getfield 169, 3) := by decide +kernel
theorem dX7_errorPosition_16 : decode cX7_errorPosition 16 = .ok (.goto 7, 3) := by decide +kernel
theorem dX7_errorPosition_19 : decode cX7_errorPosition 19 = .ok (.aload_n 0, 1) := by decide +kernel
theorem dX7_errorPosition_20 : decode cX7_errorPosition 20 = .ok (.getfield 172, 3) := by decide +kernel
theorem dX7_errorPosition_23 : decode cX7_errorPosition 23 = .ok (.ireturn, 1) := by decide +kernel
set_option maxRecDepth 200000 in
theorem ggX7_carries_X7_refusal : GoodIn wsX7_carries wsX7_refusal := goodIn_r _ [10, 4, 11, 12, 9, 13, 14, 15, 16, 17, 18, 19, 20, 21, 22, 23, 24, 25, 26, 27, 28, 29, 30, 31, 32, 33, 34, 35, 36, 37, 38, 39, 40, 41, 42, 43, 44, 45, 46, 47, 48, 49, 50, 51, 52, 53, 54, 55, 56, 57, 58, 59, 60, 61, 62, 63, 64, 65, 66, 67, 68, 69, 70, 71, 72, 73, 74, 75, 76, 77, 78, 79, 80, 81, 82, 83, 84, 85, 86, 87, 88, 89, 90, 91, 92, 93, 94, 95, 96, 97, 98, 99, 124, 125, 126, 127, 128, 129, 130, 131, 132, 133, 134, 135, 136] rfl (by decide +kernel)
set_option maxRecDepth 200000 in
theorem gX7_carries_X7_refusal : GoodIn wsX7_carries (wsV RX7 124 RX7 yX7_refusal wsX7_refusal) := goodIn_app (goodIn_of _ (by decide +kernel)) ggX7_carries_X7_refusal
set_option maxRecDepth 200000 in
theorem ggX7_carries_X7_does : GoodIn wsX7_carries wsX7_does := goodIn_r _ [103, 4, 104, 105, 106, 9, 107, 21, 22, 23, 24, 39, 40, 41, 42, 43, 44, 45, 46, 47, 48, 49, 50, 25, 26, 27, 14, 15, 16, 28, 29, 30, 108, 109, 110, 111, 70, 71, 72, 73, 66, 67, 68, 69, 74, 75, 76, 77, 78, 79, 80, 81, 82, 83, 96, 97, 98, 99, 58, 59, 60, 61, 62, 63, 64, 65, 84, 85, 86, 87, 88, 89, 90, 91, 92, 93, 94, 95, 112, 113, 114, 115, 116, 117, 118, 119, 120, 121, 122, 123, 124, 125, 126, 127, 128, 129, 130, 131, 132, 133, 134, 135, 136] rfl (by decide +kernel)
set_option maxRecDepth 200000 in
theorem gX7_carries_X7_does : GoodIn wsX7_carries (wsV RX7 131 RX7 yX7_does wsX7_does) := goodIn_app (goodIn_of _ (by decide +kernel)) ggX7_carries_X7_does
theorem dX7_carries_0 : decode cX7_carries 0 = .ok (.iconst 0, 1) := by decide +kernel
theorem dX7_carries_1 : decode cX7_carries 1 = .ok (.istore_n 1, 1) := by decide +kernel
theorem dX7_carries_2 : decode cX7_carries 2 = .ok (.aload_n 0, 1) := by decide +kernel
theorem dX7_carries_3 : decode cX7_carries 3 = .ok (.getfield 182, 3) := by decide +kernel
theorem dX7_carries_6 : decode cX7_carries 6 = .ok (.bipush 115, 2) := by decide +kernel
theorem dX7_carries_8 : decode cX7_carries 8 = .ok (.if_icmp .eq 55, 3) := by decide +kernel
theorem dX7_carries_11 : decode cX7_carries 11 = .ok (.aload_n 0, 1) := by decide +kernel
theorem dX7_carries_12 : decode cX7_carries 12 = .ok (.aload_n 0, 1) := by decide +kernel
theorem dX7_carries_13 : decode cX7_carries 13 = .ok (.getfield 182, 3) := by decide +kernel
theorem dX7_carries_16 : decode cX7_carries 16 = .ok (.aload_n 0, 1) := by decide +kernel
theorem dX7_carries_17 : decode cX7_carries 17 = .ok (.getfield 185, 3) := by decide +kernel
theorem dX7_carries_20 : decode cX7_carries 20 = .ok (.aload_n 0, 1) := by decide +kernel
theorem dX7_carries_21 : decode cX7_carries 21 = .ok (.getfield 188, 3) := by decide +kernel
theorem dX7_carries_24 : decode cX7_carries 24 = .ok (.invokevirtual 124, 3) := by decide +kernel
theorem dX7_carries_27 : decode cX7_carries 27 = .ok (.ifCond .ne 7, 3) := by decide +kernel
theorem dX7_carries_30 : decode cX7_carries 30 = .ok (.iconst 1, 1) := by decide +kernel
theorem dX7_carries_31 : decode cX7_carries 31 = .ok (.goto 4, 3) := by decide +kernel
theorem dX7_carries_34 : decode cX7_carries 34 = .ok (.iconst 0, 1) := by decide +kernel
theorem dX7_carries_35 : decode cX7_carries 35 = .ok (.istore_n 2, 1) := by decide +kernel
theorem dX7_carries_36 : decode cX7_carries 36 = .ok (.iload_n 2, 1) := by decide +kernel
theorem dX7_carries_37 : decode cX7_carries 37 = .ok (.ifCond .eq 22, 3) := by decide +kernel
theorem dX7_carries_40 : decode cX7_carries 40 = .ok (.aload_n 0, 1) := by decide +kernel
theorem dX7_carries_41 : decode cX7_carries 41 = .ok (.aload_n 0, 1) := by decide +kernel
theorem dX7_carries_42 : decode cX7_carries 42 = .ok (.getfield 182, 3) := by decide +kernel
theorem dX7_carries_45 : decode cX7_carries 45 = .ok (.aload_n 0, 1) := by decide +kernel
theorem dX7_carries_46 : decode cX7_carries 46 = .ok (.getfield 185, 3) := by decide +kernel
theorem dX7_carries_49 : decode cX7_carries 49 = .ok (.aload_n 0, 1) := by decide +kernel
theorem dX7_carries_50 : decode cX7_carries 50 = .ok (.getfield 188, 3) := by decide +kernel
theorem dX7_carries_53 : decode cX7_carries 53 = .ok (.invokevirtual 131, 3) := by decide +kernel
theorem dX7_carries_56 : decode cX7_carries 56 = .ok (.goto 4, 3) := by decide +kernel
theorem dX7_carries_59 : decode cX7_carries 59 = .ok (.iconst 0, 1) := by decide +kernel
theorem dX7_carries_60 : decode cX7_carries 60 = .ok (.istore_n 1, 1) := by decide +kernel
theorem dX7_carries_61 : decode cX7_carries 61 = .ok (.iload_n 2, 1) := by decide +kernel
theorem dX7_carries_62 : decode cX7_carries 62 = .ok (.ireturn, 1) := by decide +kernel
theorem dX7_carries_63 : decode cX7_carries 63 = .ok (.aload_n 0, 1) := by decide +kernel
theorem dX7_carries_64 : decode cX7_carries 64 = .ok (.getfield 7, 3) := by decide +kernel
theorem dX7_carries_67 : decode cX7_carries 67 = .ok (.iconst 0, 1) := by decide +kernel
theorem dX7_carries_68 : decode cX7_carries 68 = .ok (.iaload, 1) := by decide +kernel
theorem dX7_carries_69 : decode cX7_carries 69 = .ok (.ifCond .le 7, 3) := by decide +kernel
theorem dX7_carries_72 : decode cX7_carries 72 = .ok (.iconst 1, 1) := by decide +kernel
theorem dX7_carries_73 : decode cX7_carries 73 = .ok (.goto 4, 3) := by decide +kernel
theorem dX7_carries_76 : decode cX7_carries 76 = .ok (.iconst 0, 1) := by decide +kernel
theorem dX7_carries_77 : decode cX7_carries 77 = .ok (.istore_n 2, 1) := by decide +kernel
theorem dX7_carries_78 : decode cX7_carries 78 = .ok (.aload_n 0, 1) := by decide +kernel
theorem dX7_carries_79 : decode cX7_carries 79 = .ok (.getfield 185, 3) := by decide +kernel
theorem dX7_carries_82 : decode cX7_carries 82 = .ok (.istore_n 3, 1) := by decide +kernel
theorem dX7_carries_83 : decode cX7_carries 83 = .ok (.iload_n 3, 1) := by decide +kernel
theorem dX7_carries_84 : decode cX7_carries 84 = .ok (.aload_n 0, 1) := by decide +kernel
theorem dX7_carries_85 : decode cX7_carries 85 = .ok (.getfield 185, 3) := by decide +kernel
theorem dX7_carries_88 : decode cX7_carries 88 = .ok (.aload_n 0, 1) := by decide +kernel
theorem dX7_carries_89 : decode cX7_carries 89 = .ok (.getfield 188, 3) := by decide +kernel
theorem dX7_carries_92 : decode cX7_carries 92 = .ok (.iadd, 1) := by decide +kernel
theorem dX7_carries_93 : decode cX7_carries 93 = .ok (.if_icmp .ge 81, 3) := by decide +kernel
theorem dX7_carries_96 : decode cX7_carries 96 = .ok (.iload_n 2, 1) := by decide +kernel
theorem dX7_carries_97 : decode cX7_carries 97 = .ok (.ifCond .eq 77, 3) := by decide +kernel
theorem dX7_carries_100 : decode cX7_carries 100 = .ok (.aload_n 0, 1) := by decide +kernel
theorem dX7_carries_101 : decode cX7_carries 101 = .ok (.aload_n 0, 1) := by decide +kernel
theorem dX7_carries_102 : decode cX7_carries 102 = .ok (.getfield 182, 3) := by decide +kernel
theorem dX7_carries_105 : decode cX7_carries 105 = .ok (.aload_n 0, 1) := by decide +kernel
theorem dX7_carries_106 : decode cX7_carries 106 = .ok (.getfield 7, 3) := by decide +kernel
theorem dX7_carries_109 : decode cX7_carries 109 = .ok (.iconst 0, 1) := by decide +kernel
theorem dX7_carries_110 : decode cX7_carries 110 = .ok (.iaload, 1) := by decide +kernel
theorem dX7_carries_111 : decode cX7_carries 111 = .ok (.iconst 1, 1) := by decide +kernel
theorem dX7_carries_112 : decode cX7_carries 112 = .ok (.isub, 1) := by decide +kernel
theorem dX7_carries_113 : decode cX7_carries 113 = .ok (.aload_n 0, 1) := by decide +kernel
theorem dX7_carries_114 : decode cX7_carries 114 = .ok (.getfield 19, 3) := by decide +kernel
theorem dX7_carries_117 : decode cX7_carries 117 = .ok (.iload_n 3, 1) := by decide +kernel
theorem dX7_carries_118 : decode cX7_carries 118 = .ok (.iaload, 1) := by decide +kernel
theorem dX7_carries_119 : decode cX7_carries 119 = .ok (.bipush 48, 2) := by decide +kernel
theorem dX7_carries_121 : decode cX7_carries 121 = .ok (.isub, 1) := by decide +kernel
theorem dX7_carries_122 : decode cX7_carries 122 = .ok (.invokevirtual 124, 3) := by decide +kernel
theorem dX7_carries_125 : decode cX7_carries 125 = .ok (.ifCond .ne 7, 3) := by decide +kernel
theorem dX7_carries_128 : decode cX7_carries 128 = .ok (.iconst 1, 1) := by decide +kernel
theorem dX7_carries_129 : decode cX7_carries 129 = .ok (.goto 4, 3) := by decide +kernel
theorem dX7_carries_132 : decode cX7_carries 132 = .ok (.iconst 0, 1) := by decide +kernel
theorem dX7_carries_133 : decode cX7_carries 133 = .ok (.istore_n 2, 1) := by decide +kernel
theorem dX7_carries_134 : decode cX7_carries 134 = .ok (.iload_n 2, 1) := by decide +kernel
theorem dX7_carries_135 : decode cX7_carries 135 = .ok (.ifCond .eq 31, 3) := by decide +kernel
theorem dX7_carries_138 : decode cX7_carries 138 = .ok (.aload_n 0, 1) := by decide +kernel
theorem dX7_carries_139 : decode cX7_carries 139 = .ok (.aload_n 0, 1) := by decide +kernel
theorem dX7_carries_140 : decode cX7_carries 140 = .ok (.getfield 182, 3) := by decide +kernel
theorem dX7_carries_143 : decode cX7_carries 143 = .ok (.aload_n 0, 1) := by decide +kernel
theorem dX7_carries_144 : decode cX7_carries 144 = .ok (.getfield 7, 3) := by decide +kernel
theorem dX7_carries_147 : decode cX7_carries 147 = .ok (.iconst 0, 1) := by decide +kernel
theorem dX7_carries_148 : decode cX7_carries 148 = .ok (.iaload, 1) := by decide +kernel
theorem dX7_carries_149 : decode cX7_carries 149 = .ok (.iconst 1, 1) := by decide +kernel
theorem dX7_carries_150 : decode cX7_carries 150 = .ok (.isub, 1) := by decide +kernel
theorem dX7_carries_151 : decode cX7_carries 151 = .ok (.aload_n 0, 1) := by decide +kernel
theorem dX7_carries_152 : decode cX7_carries 152 = .ok (.getfield 19, 3) := by decide +kernel
theorem dX7_carries_155 : decode cX7_carries 155 = .ok (.iload_n 3, 1) := by decide +kernel
theorem dX7_carries_156 : decode cX7_carries 156 = .ok (.iaload, 1) := by decide +kernel
theorem dX7_carries_157 : decode cX7_carries 157 = .ok (.bipush 48, 2) := by decide +kernel
theorem dX7_carries_159 : decode cX7_carries 159 = .ok (.isub, 1) := by decide +kernel
theorem dX7_carries_160 : decode cX7_carries 160 = .ok (.invokevirtual 131, 3) := by decide +kernel
theorem dX7_carries_163 : decode cX7_carries 163 = .ok (.goto 4, 3) := by decide +kernel
theorem dX7_carries_166 : decode cX7_carries 166 = .ok (.iconst 0, 1) := by decide +kernel
theorem dX7_carries_167 : decode cX7_carries 167 = .ok (.istore_n 1, 1) := by decide +kernel
theorem dX7_carries_168 : decode cX7_carries 168 = .ok (.iinc 3 1, 3) := by decide +kernel
theorem dX7_carries_171 : decode cX7_carries 171 = .ok (.goto (-88), 3) := by decide +kernel
theorem dX7_carries_174 : decode cX7_carries 174 = .ok (.iload_n 2, 1) := by decide +kernel
theorem dX7_carries_175 : decode cX7_carries 175 = .ok (.ireturn, 1) := by decide +kernel
set_option maxRecDepth 200000 in
theorem ggX7_runText_X7_isText : GoodIn wsX7_runText wsX7_isText := goodIn_r _ [8, 2, 9, 3, 10, 11, 12, 7, 13, 14, 15, 16, 17, 18, 19, 20, 21, 22, 23, 24, 25, 26, 27, 28, 29, 30, 31, 32, 162, 163, 164, 165, 166, 167, 168, 169, 170, 171, 172, 173, 174] rfl (by decide +kernel)
set_option maxRecDepth 200000 in
theorem gX7_runText_X7_isText : GoodIn wsX7_runText (wsV RX7 201 RX7 yX7_isText wsX7_isText) := goodIn_app (goodIn_of _ (by decide +kernel)) ggX7_runText_X7_isText
set_option maxRecDepth 200000 in
theorem ggX7_runText_X7_fails : GoodIn wsX7_runText wsX7_fails := goodIn_r _ [36, 1, 162, 163, 164, 165, 166, 167, 168, 169, 170, 171, 172, 173, 174] rfl (by decide +kernel)
set_option maxRecDepth 200000 in
theorem gX7_runText_X7_fails : GoodIn wsX7_runText (wsV RX7 137 RX7 yX7_fails wsX7_fails) := goodIn_app (goodIn_of _ (by decide +kernel)) ggX7_runText_X7_fails
set_option maxRecDepth 200000 in
theorem ggX7_runText_X7_records : GoodIn wsX7_runText wsX7_records := goodIn_r _ [40, 41, 42, 43, 162, 163, 164, 165, 166, 167, 168, 169, 170, 171, 172, 173, 174] rfl (by decide +kernel)
set_option maxRecDepth 200000 in
theorem gX7_runText_X7_records : GoodIn wsX7_runText (wsV RX7 128 RX7 yX7_records wsX7_records) := goodIn_app (goodIn_of _ (by decide +kernel)) ggX7_runText_X7_records
set_option maxRecDepth 200000 in
theorem ggX7_runText_X7_reads : GoodIn wsX7_runText wsX7_reads := goodIn_r _ [13, 14, 9, 2, 15, 16, 17, 18, 19, 7, 20, 3, 21, 22, 23, 24, 25, 26, 27, 28, 29, 30, 31, 32, 162, 163, 164, 165, 166, 167, 168, 169, 170, 171, 172, 173, 174] rfl (by decide +kernel)
set_option maxRecDepth 200000 in
theorem gX7_runText_X7_reads : GoodIn wsX7_runText (wsV RX7 198 RX7 yX7_reads wsX7_reads) := goodIn_app (goodIn_of _ (by decide +kernel)) ggX7_runText_X7_reads
set_option maxRecDepth 200000 in
theorem ggX7_runText_X7_carries : GoodIn wsX7_runText wsX7_carries := goodIn_r _ [47, 14, 15, 16, 43, 21, 48, 49, 50, 7, 51, 52, 53, 54, 22, 23, 24, 55, 56, 57, 58, 59, 60, 61, 62, 63, 64, 65, 66, 67, 68, 69, 70, 71, 72, 73, 74, 75, 76, 77, 78, 79, 80, 81, 82, 83, 84, 85, 86, 87, 88, 89, 90, 91, 92, 93, 94, 95, 96, 97, 98, 99, 100, 101, 102, 103, 104, 105, 106, 107, 108, 109, 110, 111, 112, 113, 114, 115, 116, 117, 118, 119, 120, 121, 122, 123, 124, 125, 126, 127, 128, 129, 130, 131, 132, 133, 134, 135, 136, 137, 138, 139, 140, 141, 142, 143, 144, 145, 146, 147, 148, 149, 150, 151, 152, 153, 154, 155, 156, 157, 158, 159, 160, 161, 162, 163, 164, 165, 166, 167, 168, 169, 170, 171, 172, 173, 174] rfl (by decide +kernel)
set_option maxRecDepth 200000 in
theorem gX7_runText_X7_carries : GoodIn wsX7_runText (wsV RX7 205 RX7 yX7_carries wsX7_carries) := goodIn_app (goodIn_of _ (by decide +kernel)) ggX7_runText_X7_carries
theorem dX7_runText_0 : decode cX7_runText 0 = .ok (.aload_n 0, 1) := by decide +kernel
theorem dX7_runText_1 : decode cX7_runText 1 = .ok (.iconst 0, 1) := by decide +kernel
theorem dX7_runText_2 : decode cX7_runText 2 = .ok (.putfield 22, 3) := by decide +kernel
theorem dX7_runText_5 : decode cX7_runText 5 = .ok (.aload_n 0, 1) := by decide +kernel
theorem dX7_runText_6 : decode cX7_runText 6 = .ok (.invokevirtual 201, 3) := by decide +kernel
theorem dX7_runText_9 : decode cX7_runText 9 = .ok (.ifCond .ne 9, 3) := by decide +kernel
theorem dX7_runText_12 : decode cX7_runText 12 = .ok (.aload_n 0, 1) := by decide +kernel
theorem dX7_runText_13 : decode cX7_runText 13 = .ok (.iconst 1, 1) := by decide +kernel
theorem dX7_runText_14 : decode cX7_runText 14 = .ok (.invokevirtual 137, 3) := by decide +kernel
theorem dX7_runText_17 : decode cX7_runText 17 = .ok (.ireturn, 1) := by decide +kernel
theorem dX7_runText_18 : decode cX7_runText 18 = .ok (.aload_n 0, 1) := by decide +kernel
theorem dX7_runText_19 : decode cX7_runText 19 = .ok (.invokevirtual 128, 3) := by decide +kernel
theorem dX7_runText_22 : decode cX7_runText 22 = .ok (.iconst 0, 1) := by decide +kernel
theorem dX7_runText_23 : decode cX7_runText 23 = .ok (.istore_n 1, 1) := by decide +kernel
theorem dX7_runText_24 : decode cX7_runText 24 = .ok (.iconst 1, 1) := by decide +kernel
theorem dX7_runText_25 : decode cX7_runText 25 = .ok (.istore_n 2, 1) := by decide +kernel
theorem dX7_runText_26 : decode cX7_runText 26 = .ok (.aload_n 0, 1) := by decide +kernel
theorem dX7_runText_27 : decode cX7_runText 27 = .ok (.iconst 0, 1) := by decide +kernel
theorem dX7_runText_28 : decode cX7_runText 28 = .ok (.putfield 172, 3) := by decide +kernel
theorem dX7_runText_31 : decode cX7_runText 31 = .ok (.iload_n 2, 1) := by decide +kernel
theorem dX7_runText_32 : decode cX7_runText 32 = .ok (.ifCond .eq 48, 3) := by decide +kernel
theorem dX7_runText_35 : decode cX7_runText 35 = .ok (.aload_n 0, 1) := by decide +kernel
theorem dX7_runText_36 : decode cX7_runText 36 = .ok (.getfield 172, 3) := by decide +kernel
theorem dX7_runText_39 : decode cX7_runText 39 = .ok (.aload_n 0, 1) := by decide +kernel
theorem dX7_runText_40 : decode cX7_runText 40 = .ok (.getfield 169, 3) := by decide +kernel
theorem dX7_runText_43 : decode cX7_runText 43 = .ok (.if_icmp .ge 37, 3) := by decide +kernel
theorem dX7_runText_46 : decode cX7_runText 46 = .ok (.aload_n 0, 1) := by decide +kernel
theorem dX7_runText_47 : decode cX7_runText 47 = .ok (.invokevirtual 198, 3) := by decide +kernel
theorem dX7_runText_50 : decode cX7_runText 50 = .ok (.aload_n 0, 1) := by decide +kernel
theorem dX7_runText_51 : decode cX7_runText 51 = .ok (.dup, 1) := by decide +kernel
theorem dX7_runText_52 : decode cX7_runText 52 = .ok (.getfield 172, 3) := by decide +kernel
theorem dX7_runText_55 : decode cX7_runText 55 = .ok (.iconst 1, 1) := by decide +kernel
theorem dX7_runText_56 : decode cX7_runText 56 = .ok (.iadd, 1) := by decide +kernel
theorem dX7_runText_57 : decode cX7_runText 57 = .ok (.putfield 172, 3) := by decide +kernel
theorem dX7_runText_60 : decode cX7_runText 60 = .ok (.aload_n 0, 1) := by decide +kernel
theorem dX7_runText_61 : decode cX7_runText 61 = .ok (.invokevirtual 205, 3) := by decide +kernel
theorem dX7_runText_64 : decode cX7_runText 64 = .ok (.istore_n 2, 1) := by decide +kernel
theorem dX7_runText_65 : decode cX7_runText 65 = .ok (.iload_n 1, 1) := by decide +kernel
theorem dX7_runText_66 : decode cX7_runText 66 = .ok (.iload_n 2, 1) := by decide +kernel
theorem dX7_runText_67 : decode cX7_runText 67 = .ok (.ifCond .eq 7, 3) := by decide +kernel
theorem dX7_runText_70 : decode cX7_runText 70 = .ok (.iconst 1, 1) := by decide +kernel
theorem dX7_runText_71 : decode cX7_runText 71 = .ok (.goto 4, 3) := by decide +kernel
theorem dX7_runText_74 : decode cX7_runText 74 = .ok (.iconst 0, 1) := by decide +kernel
theorem dX7_runText_75 : decode cX7_runText 75 = .ok (.iadd, 1) := by decide +kernel
theorem dX7_runText_76 : decode cX7_runText 76 = .ok (.istore_n 1, 1) := by decide +kernel
theorem dX7_runText_77 : decode cX7_runText 77 = .ok (.goto (-46), 3) := by decide +kernel
theorem dX7_runText_80 : decode cX7_runText 80 = .ok (.iload_n 1, 1) := by decide +kernel
theorem dX7_runText_81 : decode cX7_runText 81 = .ok (.ireturn, 1) := by decide +kernel
set_option maxRecDepth 200000 in
theorem ggX7_undo_X7_fails : GoodIn wsX7_undo wsX7_fails := goodIn_r _ [9, 1, 10, 11, 12, 13, 14, 15, 16, 17, 18, 19, 20, 21, 22] rfl (by decide +kernel)
set_option maxRecDepth 200000 in
theorem gX7_undo_X7_fails : GoodIn wsX7_undo (wsV RX7 137 RX7 yX7_fails wsX7_fails) := goodIn_app (goodIn_of _ (by decide +kernel)) ggX7_undo_X7_fails
theorem dX7_undo_0 : decode cX7_undo 0 = .ok (.aload_n 0, 1) := by decide +kernel
theorem dX7_undo_1 : decode cX7_undo 1 = .ok (.iconst 0, 1) := by decide +kernel
theorem dX7_undo_2 : decode cX7_undo 2 = .ok (.putfield 22, 3) := by decide +kernel
theorem dX7_undo_5 : decode cX7_undo 5 = .ok (.aload_n 0, 1) := by decide +kernel
theorem dX7_undo_6 : decode cX7_undo 6 = .ok (.getfield 92, 3) := by decide +kernel
theorem dX7_undo_9 : decode cX7_undo 9 = .ok (.ifCond .ne 9, 3) := by decide +kernel
theorem dX7_undo_12 : decode cX7_undo 12 = .ok (.aload_n 0, 1) := by decide +kernel
theorem dX7_undo_13 : decode cX7_undo 13 = .ok (.iconst 1, 1) := by decide +kernel
theorem dX7_undo_14 : decode cX7_undo 14 = .ok (.invokevirtual 137, 3) := by decide +kernel
theorem dX7_undo_17 : decode cX7_undo 17 = .ok (.ireturn, 1) := by decide +kernel
theorem dX7_undo_18 : decode cX7_undo 18 = .ok (.aload_n 0, 1) := by decide +kernel
theorem dX7_undo_19 : decode cX7_undo 19 = .ok (.dup, 1) := by decide +kernel
theorem dX7_undo_20 : decode cX7_undo 20 = .ok (.getfield 92, 3) := by decide +kernel
theorem dX7_undo_23 : decode cX7_undo 23 = .ok (.iconst 1, 1) := by decide +kernel
theorem dX7_undo_24 : decode cX7_undo 24 = .ok (.isub, 1) := by decide +kernel
theorem dX7_undo_25 : decode cX7_undo 25 = .ok (.putfield 92, 3) := by decide +kernel
theorem dX7_undo_28 : decode cX7_undo 28 = .ok (.iconst 0, 1) := by decide +kernel
theorem dX7_undo_29 : decode cX7_undo 29 = .ok (.istore_n 1, 1) := by decide +kernel
theorem dX7_undo_30 : decode cX7_undo 30 = .ok (.iload_n 1, 1) := by decide +kernel
theorem dX7_undo_31 : decode cX7_undo 31 = .ok (.sipush 514, 3) := by decide +kernel
theorem dX7_undo_34 : decode cX7_undo 34 = .ok (.if_icmp .ge 30, 3) := by decide +kernel
theorem dX7_undo_37 : decode cX7_undo 37 = .ok (.aload_n 0, 1) := by decide +kernel
theorem dX7_undo_38 : decode cX7_undo 38 = .ok (.getfield 7, 3) := by decide +kernel
theorem dX7_undo_41 : decode cX7_undo 41 = .ok (.iload_n 1, 1) := by decide +kernel
theorem dX7_undo_42 : decode cX7_undo 42 = .ok (.aload_n 0, 1) := by decide +kernel
theorem dX7_undo_43 : decode cX7_undo 43 = .ok (.getfield 13, 3) := by decide +kernel
theorem dX7_undo_46 : decode cX7_undo 46 = .ok (.sipush 514, 3) := by decide +kernel
theorem dX7_undo_49 : decode cX7_undo 49 = .ok (.aload_n 0, 1) := by decide +kernel
theorem dX7_undo_50 : decode cX7_undo 50 = .ok (.getfield 92, 3) := by decide +kernel
theorem dX7_undo_53 : decode cX7_undo 53 = .ok (.imul, 1) := by decide +kernel
theorem dX7_undo_54 : decode cX7_undo 54 = .ok (.iload_n 1, 1) := by decide +kernel
theorem dX7_undo_55 : decode cX7_undo 55 = .ok (.iadd, 1) := by decide +kernel
theorem dX7_undo_56 : decode cX7_undo 56 = .ok (.iaload, 1) := by decide +kernel
theorem dX7_undo_57 : decode cX7_undo 57 = .ok (.iastore, 1) := by decide +kernel
theorem dX7_undo_58 : decode cX7_undo 58 = .ok (.iinc 1 1, 3) := by decide +kernel
theorem dX7_undo_61 : decode cX7_undo 61 = .ok (.goto (-31), 3) := by decide +kernel
theorem dX7_undo_64 : decode cX7_undo 64 = .ok (.aload_n 0, 1) := by decide +kernel
theorem dX7_undo_65 : decode cX7_undo 65 = .ok (.getfield 92, 3) := by decide +kernel
theorem dX7_undo_68 : decode cX7_undo 68 = .ok (.ireturn, 1) := by decide +kernel
theorem dX7_savedStates_0 : decode cX7_savedStates 0 = .ok (.aload_n 0, 1) := by decide +kernel
theorem dX7_savedStates_1 : decode cX7_savedStates 1 = .ok (.iconst 0, 1) := by decide +kernel
theorem dX7_savedStates_2 : decode cX7_savedStates 2 = .ok (.putfield 22, 3) := by decide +kernel
theorem dX7_savedStates_5 : decode cX7_savedStates 5 = .ok (.aload_n 0, 1) := by decide +kernel
theorem dX7_savedStates_6 : decode cX7_savedStates 6 = .ok (.getfield 92, 3) := by decide +kernel
theorem dX7_savedStates_9 : decode cX7_savedStates 9 = .ok (.ireturn, 1) := by decide +kernel
theorem dX7_takeSnapshot_0 : decode cX7_takeSnapshot 0 = .ok (.aload_n 0, 1) := by decide +kernel
theorem dX7_takeSnapshot_1 : decode cX7_takeSnapshot 1 = .ok (.iconst 0, 1) := by decide +kernel
theorem dX7_takeSnapshot_2 : decode cX7_takeSnapshot 2 = .ok (.putfield 22, 3) := by decide +kernel
theorem dX7_takeSnapshot_5 : decode cX7_takeSnapshot 5 = .ok (.aload_n 0, 1) := by decide +kernel
theorem dX7_takeSnapshot_6 : decode cX7_takeSnapshot 6 = .ok (.iconst 1, 1) := by decide +kernel
theorem dX7_takeSnapshot_7 : decode cX7_takeSnapshot 7 = .ok (.putfield 208, 3) := by decide +kernel
theorem dX7_takeSnapshot_10 : decode cX7_takeSnapshot 10 = .ok (.iconst 0, 1) := by decide +kernel
theorem dX7_takeSnapshot_11 : decode cX7_takeSnapshot 11 = .ok (.istore_n 1, 1) := by decide +kernel
theorem dX7_takeSnapshot_12 : decode cX7_takeSnapshot 12 = .ok (.iload_n 1, 1) := by decide +kernel
