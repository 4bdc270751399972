theorem dL_against_88 : decode cL_against 88 = .ok (.imul, 1) := by decide +kernel
theorem dL_against_89 : decode cL_against 89 = .ok (.if_icmp .le 7, 3) := by decide +kernel
theorem dL_against_92 : decode cL_against 92 = .ok (.iconst 3, 1) := by decide +kernel
theorem dL_against_93 : decode cL_against 93 = .ok (.goto 24, 3) := by decide +kernel
theorem dL_against_96 : decode cL_against 96 = .ok (.aload_n 0, 1) := by decide +kernel
theorem dL_against_97 : decode cL_against 97 = .ok (.aload_n 1, 1) := by decide +kernel
theorem dL_against_98 : decode cL_against 98 = .ok (.iload_n 2, 1) := by decide +kernel
theorem dL_against_99 : decode cL_against 99 = .ok (.aload_n 3, 1) := by decide +kernel
theorem dL_against_100 : decode cL_against 100 = .ok (.iload 4, 2) := by decide +kernel
theorem dL_against_102 : decode cL_against 102 = .ok (.invokestatic 53, 3) := by decide +kernel
theorem dL_against_105 : decode cL_against 105 = .ok (.aload_n 0, 1) := by decide +kernel
theorem dL_against_106 : decode cL_against 106 = .ok (.bipush 33, 2) := by decide +kernel
theorem dL_against_108 : decode cL_against 108 = .ok (.iaload, 1) := by decide +kernel
theorem dL_against_109 : decode cL_against 109 = .ok (.if_icmp .ge 7, 3) := by decide +kernel
theorem dL_against_112 : decode cL_against 112 = .ok (.iconst 4, 1) := by decide +kernel
theorem dL_against_113 : decode cL_against 113 = .ok (.goto 4, 3) := by decide +kernel
theorem dL_against_116 : decode cL_against 116 = .ok (.iconst 0, 1) := by decide +kernel
theorem dL_against_117 : decode cL_against 117 = .ok (.ireturn, 1) := by decide +kernel
set_option maxRecDepth 200000 in
theorem ggL_best_L_walks : GoodIn wsL_best wsL_walks := goodIn_r _ [5, 6, 7, 4, 8, 9, 10, 11, 12, 13, 14] rfl (by decide +kernel)
set_option maxRecDepth 200000 in
theorem gL_best_L_walks : GoodIn wsL_best (va_wsS RL 22 yL_walks wsL_walks) := goodIn_app (goodIn_of _ (by decide +kernel)) ggL_best_L_walks
set_option maxRecDepth 200000 in
theorem ggL_best_L_against : GoodIn wsL_best wsL_against := goodIn_r _ [17, 18, 19, 4, 20, 21, 22, 23, 24, 25, 26, 27, 28, 29, 6, 7, 8, 30, 31, 32, 33, 34, 35, 1, 2, 3, 5, 9, 10, 11, 12, 13, 14, 36, 37, 38] rfl (by decide +kernel)
set_option maxRecDepth 200000 in
theorem gL_best_L_against : GoodIn wsL_best (va_wsS RL 56 yL_against wsL_against) := goodIn_app (goodIn_of _ (by decide +kernel)) ggL_best_L_against
set_option maxRecDepth 200000 in
theorem ggL_best_L_bends : GoodIn wsL_best wsL_bends := goodIn_r _ [20, 21, 22, 4, 23, 24, 25, 26, 27, 28, 29, 6, 7, 8] rfl (by decide +kernel)
set_option maxRecDepth 200000 in
theorem gL_best_L_bends : GoodIn wsL_best (va_wsS RL 50 yL_bends wsL_bends) := goodIn_app (goodIn_of _ (by decide +kernel)) ggL_best_L_bends
set_option maxRecDepth 200000 in
theorem ggL_best_L_free : GoodIn wsL_best wsL_free := goodIn_r _ [32, 33, 34, 4, 35, 1, 2, 3, 5, 6, 7, 8, 9, 10, 11, 12, 13, 14, 21, 22, 23, 36, 37, 38] rfl (by decide +kernel)
set_option maxRecDepth 200000 in
theorem gL_best_L_free : GoodIn wsL_best (va_wsS RL 53 yL_free wsL_free) := goodIn_app (goodIn_of _ (by decide +kernel)) ggL_best_L_free
theorem dL_best_0 : decode cL_best 0 = .ok (.bipush 61, 2) := by decide +kernel
theorem dL_best_2 : decode cL_best 2 = .ok (.newarray .int, 2) := by decide +kernel
theorem dL_best_4 : decode cL_best 4 = .ok (.astore_n 3, 1) := by decide +kernel
theorem dL_best_5 : decode cL_best 5 = .ok (.aload_n 0, 1) := by decide +kernel
theorem dL_best_6 : decode cL_best 6 = .ok (.aload_n 1, 1) := by decide +kernel
theorem dL_best_7 : decode cL_best 7 = .ok (.iload_n 2, 1) := by decide +kernel
theorem dL_best_8 : decode cL_best 8 = .ok (.aload_n 3, 1) := by decide +kernel
theorem dL_best_9 : decode cL_best 9 = .ok (.invokestatic 22, 3) := by decide +kernel
theorem dL_best_12 : decode cL_best 12 = .ok (.iconst (-1), 1) := by decide +kernel
theorem dL_best_13 : decode cL_best 13 = .ok (.istore 4, 2) := by decide +kernel
theorem dL_best_15 : decode cL_best 15 = .ok (.iconst 0, 1) := by decide +kernel
theorem dL_best_16 : decode cL_best 16 = .ok (.istore 5, 2) := by decide +kernel
theorem dL_best_18 : decode cL_best 18 = .ok (.aload_n 0, 1) := by decide +kernel
theorem dL_best_19 : decode cL_best 19 = .ok (.iconst 4, 1) := by decide +kernel
theorem dL_best_20 : decode cL_best 20 = .ok (.iload_n 2, 1) := by decide +kernel
theorem dL_best_21 : decode cL_best 21 = .ok (.imul, 1) := by decide +kernel
theorem dL_best_22 : decode cL_best 22 = .ok (.iconst 2, 1) := by decide +kernel
theorem dL_best_23 : decode cL_best 23 = .ok (.iadd, 1) := by decide +kernel
theorem dL_best_24 : decode cL_best 24 = .ok (.iaload, 1) := by decide +kernel
theorem dL_best_25 : decode cL_best 25 = .ok (.istore 6, 2) := by decide +kernel
theorem dL_best_27 : decode cL_best 27 = .ok (.iload 6, 2) := by decide +kernel
theorem dL_best_29 : decode cL_best 29 = .ok (.ifCond .lt 85, 3) := by decide +kernel
theorem dL_best_32 : decode cL_best 32 = .ok (.aload_n 0, 1) := by decide +kernel
theorem dL_best_33 : decode cL_best 33 = .ok (.aload_n 1, 1) := by decide +kernel
theorem dL_best_34 : decode cL_best 34 = .ok (.iload_n 2, 1) := by decide +kernel
theorem dL_best_35 : decode cL_best 35 = .ok (.aload_n 3, 1) := by decide +kernel
theorem dL_best_36 : decode cL_best 36 = .ok (.iload 6, 2) := by decide +kernel
theorem dL_best_38 : decode cL_best 38 = .ok (.invokestatic 56, 3) := by decide +kernel
theorem dL_best_41 : decode cL_best 41 = .ok (.ifCond .ne 67, 3) := by decide +kernel
theorem dL_best_44 : decode cL_best 44 = .ok (.sipush 200, 3) := by decide +kernel
theorem dL_best_47 : decode cL_best 47 = .ok (.iconst 1, 1) := by decide +kernel
theorem dL_best_48 : decode cL_best 48 = .ok (.aload_n 0, 1) := by decide +kernel
theorem dL_best_49 : decode cL_best 49 = .ok (.aload_n 1, 1) := by decide +kernel
theorem dL_best_50 : decode cL_best 50 = .ok (.iload_n 2, 1) := by decide +kernel
theorem dL_best_51 : decode cL_best 51 = .ok (.aload_n 3, 1) := by decide +kernel
theorem dL_best_52 : decode cL_best 52 = .ok (.iload 6, 2) := by decide +kernel
theorem dL_best_54 : decode cL_best 54 = .ok (.invokestatic 50, 3) := by decide +kernel
theorem dL_best_57 : decode cL_best 57 = .ok (.isub, 1) := by decide +kernel
theorem dL_best_58 : decode cL_best 58 = .ok (.imul, 1) := by decide +kernel
theorem dL_best_59 : decode cL_best 59 = .ok (.aload_n 0, 1) := by decide +kernel
theorem dL_best_60 : decode cL_best 60 = .ok (.aload_n 1, 1) := by decide +kernel
theorem dL_best_61 : decode cL_best 61 = .ok (.iload_n 2, 1) := by decide +kernel
theorem dL_best_62 : decode cL_best 62 = .ok (.aload_n 3, 1) := by decide +kernel
theorem dL_best_63 : decode cL_best 63 = .ok (.iload 6, 2) := by decide +kernel
theorem dL_best_65 : decode cL_best 65 = .ok (.invokestatic 53, 3) := by decide +kernel
theorem dL_best_68 : decode cL_best 68 = .ok (.iadd, 1) := by decide +kernel
theorem dL_best_69 : decode cL_best 69 = .ok (.istore 7, 2) := by decide +kernel
theorem dL_best_71 : decode cL_best 71 = .ok (.iload 4, 2) := by decide +kernel
theorem dL_best_73 : decode cL_best 73 = .ok (.ifCond .lt 10, 3) := by decide +kernel
theorem dL_best_76 : decode cL_best 76 = .ok (.iload 7, 2) := by decide +kernel
theorem dL_best_78 : decode cL_best 78 = .ok (.iload 5, 2) := by decide +kernel
theorem dL_best_80 : decode cL_best 80 = .ok (.if_icmp .lt 8, 3) := by decide +kernel
theorem dL_best_83 : decode cL_best 83 = .ok (.iload 6, 2) := by decide +kernel
theorem dL_best_85 : decode cL_best 85 = .ok (.goto 5, 3) := by decide +kernel
theorem dL_best_88 : decode cL_best 88 = .ok (.iload 4, 2) := by decide +kernel
theorem dL_best_90 : decode cL_best 90 = .ok (.istore 4, 2) := by decide +kernel
theorem dL_best_92 : decode cL_best 92 = .ok (.iload 4, 2) := by decide +kernel
theorem dL_best_94 : decode cL_best 94 = .ok (.iload 6, 2) := by decide +kernel
theorem dL_best_96 : decode cL_best 96 = .ok (.if_icmp .ne 8, 3) := by decide +kernel
theorem dL_best_99 : decode cL_best 99 = .ok (.iload 7, 2) := by decide +kernel
theorem dL_best_101 : decode cL_best 101 = .ok (.goto 5, 3) := by decide +kernel
theorem dL_best_104 : decode cL_best 104 = .ok (.iload 5, 2) := by decide +kernel
theorem dL_best_106 : decode cL_best 106 = .ok (.istore 5, 2) := by decide +kernel
theorem dL_best_108 : decode cL_best 108 = .ok (.iinc 6 (-1), 3) := by decide +kernel
theorem dL_best_111 : decode cL_best 111 = .ok (.goto (-84), 3) := by decide +kernel
theorem dL_best_114 : decode cL_best 114 = .ok (.iload 4, 2) := by decide +kernel
theorem dL_best_116 : decode cL_best 116 = .ok (.ireturn, 1) := by decide +kernel
set_option maxRecDepth 200000 in
theorem ggL_isWithin_L_closed : GoodIn wsL_isWithin wsL_closed := goodIn_r _ [4] rfl (by decide +kernel)
set_option maxRecDepth 200000 in
theorem gL_isWithin_L_closed : GoodIn wsL_isWithin (va_wsS RL 26 yL_closed wsL_closed) := goodIn_app (goodIn_of _ (by decide +kernel)) ggL_isWithin_L_closed
theorem dL_isWithin_0 : decode cL_isWithin 0 = .ok (.iconst 0, 1) := by decide +kernel
theorem dL_isWithin_1 : decode cL_isWithin 1 = .ok (.istore 4, 2) := by decide +kernel
theorem dL_isWithin_3 : decode cL_isWithin 3 = .ok (.iconst 0, 1) := by decide +kernel
theorem dL_isWithin_4 : decode cL_isWithin 4 = .ok (.istore 5, 2) := by decide +kernel
theorem dL_isWithin_6 : decode cL_isWithin 6 = .ok (.iload 5, 2) := by decide +kernel
theorem dL_isWithin_8 : decode cL_isWithin 8 = .ok (.aload_n 0, 1) := by decide +kernel
theorem dL_isWithin_9 : decode cL_isWithin 9 = .ok (.iconst 4, 1) := by decide +kernel
theorem dL_isWithin_10 : decode cL_isWithin 10 = .ok (.iload_n 1, 1) := by decide +kernel
theorem dL_isWithin_11 : decode cL_isWithin 11 = .ok (.imul, 1) := by decide +kernel
theorem dL_isWithin_12 : decode cL_isWithin 12 = .ok (.iconst 2, 1) := by decide +kernel
theorem dL_isWithin_13 : decode cL_isWithin 13 = .ok (.iadd, 1) := by decide +kernel
theorem dL_isWithin_14 : decode cL_isWithin 14 = .ok (.iaload, 1) := by decide +kernel
theorem dL_isWithin_15 : decode cL_isWithin 15 = .ok (.if_icmp .ge 125, 3) := by decide +kernel
theorem dL_isWithin_18 : decode cL_isWithin 18 = .ok (.aload_n 2, 1) := by decide +kernel
theorem dL_isWithin_19 : decode cL_isWithin 19 = .ok (.iload 5, 2) := by decide +kernel
theorem dL_isWithin_21 : decode cL_isWithin 21 = .ok (.iaload, 1) := by decide +kernel
theorem dL_isWithin_22 : decode cL_isWithin 22 = .ok (.iload_n 3, 1) := by decide +kernel
theorem dL_isWithin_23 : decode cL_isWithin 23 = .ok (.if_icmp .ne 5, 3) := by decide +kernel
theorem dL_isWithin_26 : decode cL_isWithin 26 = .ok (.iconst 0, 1) := by decide +kernel
theorem dL_isWithin_27 : decode cL_isWithin 27 = .ok (.ireturn, 1) := by decide +kernel
theorem dL_isWithin_28 : decode cL_isWithin 28 = .ok (.aload_n 2, 1) := by decide +kernel
theorem dL_isWithin_29 : decode cL_isWithin 29 = .ok (.iload 5, 2) := by decide +kernel
theorem dL_isWithin_31 : decode cL_isWithin 31 = .ok (.iaload, 1) := by decide +kernel
theorem dL_isWithin_32 : decode cL_isWithin 32 = .ok (.bipush 24, 2) := by decide +kernel
theorem dL_isWithin_34 : decode cL_isWithin 34 = .ok (.idiv, 1) := by decide +kernel
theorem dL_isWithin_35 : decode cL_isWithin 35 = .ok (.aload_n 2, 1) := by decide +kernel
theorem dL_isWithin_36 : decode cL_isWithin 36 = .ok (.iload 5, 2) := by decide +kernel
theorem dL_isWithin_38 : decode cL_isWithin 38 = .ok (.iconst 1, 1) := by decide +kernel
theorem dL_isWithin_39 : decode cL_isWithin 39 = .ok (.iadd, 1) := by decide +kernel
theorem dL_isWithin_40 : decode cL_isWithin 40 = .ok (.iaload, 1) := by decide +kernel
theorem dL_isWithin_41 : decode cL_isWithin 41 = .ok (.bipush 24, 2) := by decide +kernel
theorem dL_isWithin_43 : decode cL_isWithin 43 = .ok (.idiv, 1) := by decide +kernel
theorem dL_isWithin_44 : decode cL_isWithin 44 = .ok (.if_icmp .le 10, 3) := by decide +kernel
theorem dL_isWithin_47 : decode cL_isWithin 47 = .ok (.aload_n 2, 1) := by decide +kernel
theorem dL_isWithin_48 : decode cL_isWithin 48 = .ok (.iload 5, 2) := by decide +kernel
theorem dL_isWithin_50 : decode cL_isWithin 50 = .ok (.iaload, 1) := by decide +kernel
theorem dL_isWithin_51 : decode cL_isWithin 51 = .ok (.goto 9, 3) := by decide +kernel
theorem dL_isWithin_54 : decode cL_isWithin 54 = .ok (.aload_n 2, 1) := by decide +kernel
theorem dL_isWithin_55 : decode cL_isWithin 55 = .ok (.iload 5, 2) := by decide +kernel
theorem dL_isWithin_57 : decode cL_isWithin 57 = .ok (.iconst 1, 1) := by decide +kernel
theorem dL_isWithin_58 : decode cL_isWithin 58 = .ok (.iadd, 1) := by decide +kernel
theorem dL_isWithin_59 : decode cL_isWithin 59 = .ok (.iaload, 1) := by decide +kernel
theorem dL_isWithin_60 : decode cL_isWithin 60 = .ok (.istore 6, 2) := by decide +kernel
theorem dL_isWithin_62 : decode cL_isWithin 62 = .ok (.aload_n 2, 1) := by decide +kernel
theorem dL_isWithin_63 : decode cL_isWithin 63 = .ok (.iload 5, 2) := by decide +kernel
theorem dL_isWithin_65 : decode cL_isWithin 65 = .ok (.iaload, 1) := by decide +kernel
theorem dL_isWithin_66 : decode cL_isWithin 66 = .ok (.bipush 24, 2) := by decide +kernel
theorem dL_isWithin_68 : decode cL_isWithin 68 = .ok (.idiv, 1) := by decide +kernel
theorem dL_isWithin_69 : decode cL_isWithin 69 = .ok (.aload_n 2, 1) := by decide +kernel
theorem dL_isWithin_70 : decode cL_isWithin 70 = .ok (.iload 5, 2) := by decide +kernel
theorem dL_isWithin_72 : decode cL_isWithin 72 = .ok (.iconst 1, 1) := by decide +kernel
theorem dL_isWithin_73 : decode cL_isWithin 73 = .ok (.iadd, 1) := by decide +kernel
theorem dL_isWithin_74 : decode cL_isWithin 74 = .ok (.iaload, 1) := by decide +kernel
theorem dL_isWithin_75 : decode cL_isWithin 75 = .ok (.bipush 24, 2) := by decide +kernel
theorem dL_isWithin_77 : decode cL_isWithin 77 = .ok (.idiv, 1) := by decide +kernel
theorem dL_isWithin_78 : decode cL_isWithin 78 = .ok (.if_icmp .eq 31, 3) := by decide +kernel
theorem dL_isWithin_81 : decode cL_isWithin 81 = .ok (.iload 6, 2) := by decide +kernel
theorem dL_isWithin_83 : decode cL_isWithin 83 = .ok (.bipush 24, 2) := by decide +kernel
theorem dL_isWithin_85 : decode cL_isWithin 85 = .ok (.idiv, 1) := by decide +kernel
theorem dL_isWithin_86 : decode cL_isWithin 86 = .ok (.iload_n 3, 1) := by decide +kernel
theorem dL_isWithin_87 : decode cL_isWithin 87 = .ok (.bipush 24, 2) := by decide +kernel
theorem dL_isWithin_89 : decode cL_isWithin 89 = .ok (.idiv, 1) := by decide +kernel
theorem dL_isWithin_90 : decode cL_isWithin 90 = .ok (.if_icmp .ne 19, 3) := by decide +kernel
theorem dL_isWithin_93 : decode cL_isWithin 93 = .ok (.iload 6, 2) := by decide +kernel
theorem dL_isWithin_95 : decode cL_isWithin 95 = .ok (.bipush 24, 2) := by decide +kernel
theorem dL_isWithin_97 : decode cL_isWithin 97 = .ok (.irem, 1) := by decide +kernel
theorem dL_isWithin_98 : decode cL_isWithin 98 = .ok (.iload_n 3, 1) := by decide +kernel
theorem dL_isWithin_99 : decode cL_isWithin 99 = .ok (.bipush 24, 2) := by decide +kernel
theorem dL_isWithin_101 : decode cL_isWithin 101 = .ok (.irem, 1) := by decide +kernel
theorem dL_isWithin_102 : decode cL_isWithin 102 = .ok (.if_icmp .ge 7, 3) := by decide +kernel
theorem dL_isWithin_105 : decode cL_isWithin 105 = .ok (.iconst 1, 1) := by decide +kernel
theorem dL_isWithin_106 : decode cL_isWithin 106 = .ok (.goto 4, 3) := by decide +kernel
theorem dL_isWithin_109 : decode cL_isWithin 109 = .ok (.iconst 0, 1) := by decide +kernel
theorem dL_isWithin_110 : decode cL_isWithin 110 = .ok (.istore 7, 2) := by decide +kernel
theorem dL_isWithin_112 : decode cL_isWithin 112 = .ok (.iload 7, 2) := by decide +kernel
theorem dL_isWithin_114 : decode cL_isWithin 114 = .ok (.ifCond .eq 16, 3) := by decide +kernel
theorem dL_isWithin_117 : decode cL_isWithin 117 = .ok (.iload 4, 2) := by decide +kernel
theorem dL_isWithin_119 : decode cL_isWithin 119 = .ok (.ifCond .ne 7, 3) := by decide +kernel
theorem dL_isWithin_122 : decode cL_isWithin 122 = .ok (.iconst 1, 1) := by decide +kernel
theorem dL_isWithin_123 : decode cL_isWithin 123 = .ok (.goto 9, 3) := by decide +kernel
theorem dL_isWithin_126 : decode cL_isWithin 126 = .ok (.iconst 0, 1) := by decide +kernel
theorem dL_isWithin_127 : decode cL_isWithin 127 = .ok (.goto 5, 3) := by decide +kernel
theorem dL_isWithin_130 : decode cL_isWithin 130 = .ok (.iload 4, 2) := by decide +kernel
theorem dL_isWithin_132 : decode cL_isWithin 132 = .ok (.istore 4, 2) := by decide +kernel
theorem dL_isWithin_134 : decode cL_isWithin 134 = .ok (.iinc 5 1, 3) := by decide +kernel
theorem dL_isWithin_137 : decode cL_isWithin 137 = .ok (.goto (-131), 3) := by decide +kernel
theorem dL_isWithin_140 : decode cL_isWithin 140 = .ok (.iload 4, 2) := by decide +kernel
theorem dL_isWithin_142 : decode cL_isWithin 142 = .ok (.ifCond .eq 16, 3) := by decide +kernel
theorem dL_isWithin_145 : decode cL_isWithin 145 = .ok (.aload_n 0, 1) := by decide +kernel
theorem dL_isWithin_146 : decode cL_isWithin 146 = .ok (.iload_n 1, 1) := by decide +kernel
theorem dL_isWithin_147 : decode cL_isWithin 147 = .ok (.aload_n 2, 1) := by decide +kernel
theorem dL_isWithin_148 : decode cL_isWithin 148 = .ok (.invokestatic 26, 3) := by decide +kernel
theorem dL_isWithin_151 : decode cL_isWithin 151 = .ok (.ifCond .eq 7, 3) := by decide +kernel
theorem dL_isWithin_154 : decode cL_isWithin 154 = .ok (.iconst 1, 1) := by decide +kernel
theorem dL_isWithin_155 : decode cL_isWithin 155 = .ok (.goto 4, 3) := by decide +kernel
theorem dL_isWithin_158 : decode cL_isWithin 158 = .ok (.iconst 0, 1) := by decide +kernel
theorem dL_isWithin_159 : decode cL_isWithin 159 = .ok (.ireturn, 1) := by decide +kernel
set_option maxRecDepth 200000 in
theorem ggL_round_L_walks : GoodIn wsL_round wsL_walks := goodIn_r _ [5, 6, 7, 4, 8, 9, 10, 11, 12, 13, 14] rfl (by decide +kernel)
set_option maxRecDepth 200000 in
theorem gL_round_L_walks : GoodIn wsL_round (va_wsS RL 22 yL_walks wsL_walks) := goodIn_app (goodIn_of _ (by decide +kernel)) ggL_round_L_walks
set_option maxRecDepth 200000 in
theorem ggL_round_L_isWithin : GoodIn wsL_round wsL_isWithin := goodIn_r _ [17, 18, 19, 4, 20] rfl (by decide +kernel)
set_option maxRecDepth 200000 in
theorem gL_round_L_isWithin : GoodIn wsL_round (va_wsS RL 59 yL_isWithin wsL_isWithin) := goodIn_app (goodIn_of _ (by decide +kernel)) ggL_round_L_isWithin
theorem dL_round_0 : decode cL_round 0 = .ok (.bipush 61, 2) := by decide +kernel
theorem dL_round_2 : decode cL_round 2 = .ok (.newarray .int, 2) := by decide +kernel
theorem dL_round_4 : decode cL_round 4 = .ok (.astore_n 3, 1) := by decide +kernel
theorem dL_round_5 : decode cL_round 5 = .ok (.bipush 61, 2) := by decide +kernel
theorem dL_round_7 : decode cL_round 7 = .ok (.newarray .int, 2) := by decide +kernel
theorem dL_round_9 : decode cL_round 9 = .ok (.astore 4, 2) := by decide +kernel
theorem dL_round_11 : decode cL_round 11 = .ok (.iconst (-1), 1) := by decide +kernel
theorem dL_round_12 : decode cL_round 12 = .ok (.istore 5, 2) := by decide +kernel
theorem dL_round_14 : decode cL_round 14 = .ok (.iconst (-1), 1) := by decide +kernel
theorem dL_round_15 : decode cL_round 15 = .ok (.istore 6, 2) := by decide +kernel
theorem dL_round_17 : decode cL_round 17 = .ok (.iconst 0, 1) := by decide +kernel
theorem dL_round_18 : decode cL_round 18 = .ok (.istore 7, 2) := by decide +kernel
theorem dL_round_20 : decode cL_round 20 = .ok (.iload 7, 2) := by decide +kernel
theorem dL_round_22 : decode cL_round 22 = .ok (.aload_n 0, 1) := by decide +kernel
theorem dL_round_23 : decode cL_round 23 = .ok (.bipush 32, 2) := by decide +kernel
theorem dL_round_25 : decode cL_round 25 = .ok (.iaload, 1) := by decide +kernel
theorem dL_round_26 : decode cL_round 26 = .ok (.if_icmp .ge 125, 3) := by decide +kernel
theorem dL_round_29 : decode cL_round 29 = .ok (.aload_n 0, 1) := by decide +kernel
theorem dL_round_30 : decode cL_round 30 = .ok (.aload_n 1, 1) := by decide +kernel
theorem dL_round_31 : decode cL_round 31 = .ok (.iload 7, 2) := by decide +kernel
theorem dL_round_33 : decode cL_round 33 = .ok (.aload_n 3, 1) := by decide +kernel
theorem dL_round_34 : decode cL_round 34 = .ok (.invokestatic 22, 3) := by decide +kernel
theorem dL_round_37 : decode cL_round 37 = .ok (.aload_n 0, 1) := by decide +kernel
theorem dL_round_38 : decode cL_round 38 = .ok (.iload 7, 2) := by decide +kernel
theorem dL_round_40 : decode cL_round 40 = .ok (.aload_n 3, 1) := by decide +kernel
theorem dL_round_41 : decode cL_round 41 = .ok (.aload_n 0, 1) := by decide +kernel
theorem dL_round_42 : decode cL_round 42 = .ok (.iconst 4, 1) := by decide +kernel
theorem dL_round_43 : decode cL_round 43 = .ok (.iload_n 2, 1) := by decide +kernel
theorem dL_round_44 : decode cL_round 44 = .ok (.imul, 1) := by decide +kernel
theorem dL_round_45 : decode cL_round 45 = .ok (.iconst 1, 1) := by decide +kernel
theorem dL_round_46 : decode cL_round 46 = .ok (.iadd, 1) := by decide +kernel
theorem dL_round_47 : decode cL_round 47 = .ok (.iaload, 1) := by decide +kernel
theorem dL_round_48 : decode cL_round 48 = .ok (.invokestatic 59, 3) := by decide +kernel
theorem dL_round_51 : decode cL_round 51 = .ok (.ifCond .eq 94, 3) := by decide +kernel
theorem dL_round_54 : decode cL_round 54 = .ok (.iconst 0, 1) := by decide +kernel
theorem dL_round_55 : decode cL_round 55 = .ok (.istore 8, 2) := by decide +kernel
theorem dL_round_57 : decode cL_round 57 = .ok (.iconst 0, 1) := by decide +kernel
theorem dL_round_58 : decode cL_round 58 = .ok (.istore 9, 2) := by decide +kernel
theorem dL_round_60 : decode cL_round 60 = .ok (.iload 9, 2) := by decide +kernel
theorem dL_round_62 : decode cL_round 62 = .ok (.aload_n 0, 1) := by decide +kernel
theorem dL_round_63 : decode cL_round 63 = .ok (.bipush 32, 2) := by decide +kernel
theorem dL_round_65 : decode cL_round 65 = .ok (.iaload, 1) := by decide +kernel
theorem dL_round_66 : decode cL_round 66 = .ok (.if_icmp .ge 47, 3) := by decide +kernel
theorem dL_round_69 : decode cL_round 69 = .ok (.aload_n 0, 1) := by decide +kernel
theorem dL_round_70 : decode cL_round 70 = .ok (.aload_n 1, 1) := by decide +kernel
theorem dL_round_71 : decode cL_round 71 = .ok (.iload 9, 2) := by decide +kernel
theorem dL_round_73 : decode cL_round 73 = .ok (.aload 4, 2) := by decide +kernel
theorem dL_round_75 : decode cL_round 75 = .ok (.invokestatic 22, 3) := by decide +kernel
theorem dL_round_78 : decode cL_round 78 = .ok (.iload 8, 2) := by decide +kernel
theorem dL_round_80 : decode cL_round 80 = .ok (.aload_n 0, 1) := by decide +kernel
theorem dL_round_81 : decode cL_round 81 = .ok (.iload 9, 2) := by decide +kernel
theorem dL_round_83 : decode cL_round 83 = .ok (.aload 4, 2) := by decide +kernel
theorem dL_round_85 : decode cL_round 85 = .ok (.aload_n 0, 1) := by decide +kernel
theorem dL_round_86 : decode cL_round 86 = .ok (.iconst 4, 1) := by decide +kernel
theorem dL_round_87 : decode cL_round 87 = .ok (.iload 7, 2) := by decide +kernel
theorem dL_round_89 : decode cL_round 89 = .ok (.imul, 1) := by decide +kernel
theorem dL_round_90 : decode cL_round 90 = .ok (.iconst 1, 1) := by decide +kernel
theorem dL_round_91 : decode cL_round 91 = .ok (.iadd, 1) := by decide +kernel
theorem dL_round_92 : decode cL_round 92 = .ok (.iaload, 1) := by decide +kernel
theorem dL_round_93 : decode cL_round 93 = .ok (.invokestatic 59, 3) := by decide +kernel
theorem dL_round_96 : decode cL_round 96 = .ok (.ifCond .eq 7, 3) := by decide +kernel
theorem dL_round_99 : decode cL_round 99 = .ok (.iconst 1, 1) := by decide +kernel
theorem dL_round_100 : decode cL_round 100 = .ok (.goto 4, 3) := by decide +kernel
theorem dL_round_103 : decode cL_round 103 = .ok (.iconst 0, 1) := by decide +kernel
theorem dL_round_104 : decode cL_round 104 = .ok (.iadd, 1) := by decide +kernel
theorem dL_round_105 : decode cL_round 105 = .ok (.istore 8, 2) := by decide +kernel
theorem dL_round_107 : decode cL_round 107 = .ok (.iinc 9 1, 3) := by decide +kernel
theorem dL_round_110 : decode cL_round 110 = .ok (.goto (-50), 3) := by decide +kernel
theorem dL_round_113 : decode cL_round 113 = .ok (.iload 8, 2) := by decide +kernel
theorem dL_round_115 : decode cL_round 115 = .ok (.iload 6, 2) := by decide +kernel
theorem dL_round_117 : decode cL_round 117 = .ok (.if_icmp .le 8, 3) := by decide +kernel
theorem dL_round_120 : decode cL_round 120 = .ok (.iload 7, 2) := by decide +kernel
theorem dL_round_122 : decode cL_round 122 = .ok (.goto 5, 3) := by decide +kernel
theorem dL_round_125 : decode cL_round 125 = .ok (.iload 5, 2) := by decide +kernel
theorem dL_round_127 : decode cL_round 127 = .ok (.istore 5, 2) := by decide +kernel
theorem dL_round_129 : decode cL_round 129 = .ok (.iload 8, 2) := by decide +kernel
theorem dL_round_131 : decode cL_round 131 = .ok (.iload 6, 2) := by decide +kernel
theorem dL_round_133 : decode cL_round 133 = .ok (.if_icmp .le 8, 3) := by decide +kernel
theorem dL_round_136 : decode cL_round 136 = .ok (.iload 8, 2) := by decide +kernel
theorem dL_round_138 : decode cL_round 138 = .ok (.goto 5, 3) := by decide +kernel
theorem dL_round_141 : decode cL_round 141 = .ok (.iload 6, 2) := by decide +kernel
theorem dL_round_143 : decode cL_round 143 = .ok (.istore 6, 2) := by decide +kernel
theorem dL_round_145 : decode cL_round 145 = .ok (.iinc 7 1, 3) := by decide +kernel
theorem dL_round_148 : decode cL_round 148 = .ok (.goto (-128), 3) := by decide +kernel
theorem dL_round_151 : decode cL_round 151 = .ok (.iload 5, 2) := by decide +kernel
theorem dL_round_153 : decode cL_round 153 = .ok (.ireturn, 1) := by decide +kernel
set_option maxRecDepth 200000 in
theorem ggL_isLine_L_walks : GoodIn wsL_isLine wsL_walks := goodIn_r _ [6, 7, 8, 5, 9, 10, 11, 12, 13, 14, 15] rfl (by decide +kernel)
set_option maxRecDepth 200000 in
theorem gL_isLine_L_walks : GoodIn wsL_isLine (va_wsS RL 22 yL_walks wsL_walks) := goodIn_app (goodIn_of _ (by decide +kernel)) ggL_isLine_L_walks
set_option maxRecDepth 200000 in
theorem ggL_isLine_X6_levelOf : GoodIn wsL_isLine wsX6_levelOf := goodIn_ca (goodIn_r _ [20, 21, 22, 23, 24, 19, 25, 26, 27, 28, 29, 30, 31, 32, 33, 34, 35, 36, 37, 38, 375, 376, 377, 378, 379, 380, 381, 382, 383, 384] rfl (by decide +kernel)) (goodIn_sub (fun _ h => List.mem_cons_of_mem _ (List.mem_append_left _ (List.mem_append_right _ h))) (by decide +kernel))
set_option maxRecDepth 200000 in
theorem gL_isLine_X6_levelOf : GoodIn wsL_isLine (wsV RL 63 RX6 yX6_levelOf wsX6_levelOf) := goodIn_app (goodIn_of _ (by decide +kernel)) ggL_isLine_X6_levelOf
set_option maxRecDepth 200000 in
theorem ggL_isLine_X6_stepsOf : GoodIn wsL_isLine wsX6_stepsOf := goodIn_ca (goodIn_r _ [42, 21, 22, 23, 24, 19, 25, 26, 27, 28, 29, 30, 31, 32, 33, 43, 44, 45, 46, 47, 375, 376, 377, 378, 379, 380, 381, 382, 383, 384] rfl (by decide +kernel)) (goodIn_sub (fun _ h => List.mem_cons_of_mem _ (List.mem_append_left _ (List.mem_append_right _ h))) (by decide +kernel))
set_option maxRecDepth 200000 in
theorem gL_isLine_X6_stepsOf : GoodIn wsL_isLine (wsV RL 68 RX6 yX6_stepsOf wsX6_stepsOf) := goodIn_app (goodIn_of _ (by decide +kernel)) ggL_isLine_X6_stepsOf
set_option maxRecDepth 200000 in
theorem ggL_isLine_X6_isClosed : GoodIn wsL_isLine wsX6_isClosed := goodIn_ca (goodIn_r _ [51, 21, 22, 23, 24, 19, 25, 26, 27, 28, 29, 30, 31, 32, 33, 52, 53, 54, 55, 47, 56, 375, 376, 377, 378, 379, 380, 381, 382, 383, 384] rfl (by decide +kernel)) (goodIn_sub (fun _ h => List.mem_cons_of_mem _ (List.mem_append_left _ (List.mem_append_right _ h))) (by decide +kernel))
set_option maxRecDepth 200000 in
theorem gL_isLine_X6_isClosed : GoodIn wsL_isLine (wsV RL 71 RX6 yX6_isClosed wsX6_isClosed) := goodIn_app (goodIn_of _ (by decide +kernel)) ggL_isLine_X6_isClosed
set_option maxRecDepth 200000 in
theorem ggL_isLine_L_closed : GoodIn wsL_isLine wsL_closed := goodIn_r _ [59] rfl (by decide +kernel)
set_option maxRecDepth 200000 in
theorem gL_isLine_L_closed : GoodIn wsL_isLine (va_wsS RL 26 yL_closed wsL_closed) := goodIn_app (goodIn_of _ (by decide +kernel)) ggL_isLine_L_closed
set_option maxRecDepth 200000 in
theorem ggL_isLine_X6_sizeOf : GoodIn wsL_isLine wsX6_sizeOf := goodIn_ca (goodIn_r _ [63, 21, 22, 23, 24, 19, 25, 26, 27, 28, 29, 30, 31, 32, 33, 64, 65, 66, 67, 38, 375, 376, 377, 378, 379, 380, 381, 382, 383, 384] rfl (by decide +kernel)) (goodIn_sub (fun _ h => List.mem_cons_of_mem _ (List.mem_append_left _ (List.mem_append_right _ h))) (by decide +kernel))
set_option maxRecDepth 200000 in
theorem gL_isLine_X6_sizeOf : GoodIn wsL_isLine (wsV RL 75 RX6 yX6_sizeOf wsX6_sizeOf) := goodIn_app (goodIn_of _ (by decide +kernel)) ggL_isLine_X6_sizeOf
set_option maxRecDepth 200000 in
theorem ggL_isLine_L_size : GoodIn wsL_isLine wsL_size := goodIn_r _ [70] rfl (by decide +kernel)
set_option maxRecDepth 200000 in
theorem gL_isLine_L_size : GoodIn wsL_isLine (va_wsS RL 34 yL_size wsL_size) := goodIn_app (goodIn_of _ (by decide +kernel)) ggL_isLine_L_size
set_option maxRecDepth 200000 in
theorem ggL_isLine_X6_labelOf : GoodIn wsL_isLine wsX6_labelOf := goodIn_ca (goodIn_r _ [74, 21, 22, 23, 24, 19, 25, 26, 27, 28, 29, 30, 31, 32, 33, 75, 76, 77, 78, 79, 375, 376, 377, 378, 379, 380, 381, 382, 383, 384] rfl (by decide +kernel)) (goodIn_sub (fun _ h => List.mem_cons_of_mem _ (List.mem_append_left _ (List.mem_append_right _ h))) (by decide +kernel))
set_option maxRecDepth 200000 in
theorem gL_isLine_X6_labelOf : GoodIn wsL_isLine (wsV RL 78 RX6 yX6_labelOf wsX6_labelOf) := goodIn_app (goodIn_of _ (by decide +kernel)) ggL_isLine_X6_labelOf
set_option maxRecDepth 200000 in
theorem ggL_isLine_L_dir : GoodIn wsL_isLine wsL_dir := goodIn_r _ [9] rfl (by decide +kernel)
set_option maxRecDepth 200000 in
theorem gL_isLine_L_dir : GoodIn wsL_isLine (va_wsS RL 9 yL_dir wsL_dir) := goodIn_app (goodIn_of _ (by decide +kernel)) ggL_isLine_L_dir
set_option maxRecDepth 200000 in
theorem ggL_isLine_L_against : GoodIn wsL_isLine wsL_against := goodIn_r _ [82, 83, 84, 5, 85, 68, 69, 70, 57, 58, 59, 86, 87, 88, 7, 8, 9, 89, 90, 91, 92, 93, 94, 1, 3, 4, 6, 10, 11, 12, 13, 14, 15, 95, 96, 97] rfl (by decide +kernel)
set_option maxRecDepth 200000 in
theorem gL_isLine_L_against : GoodIn wsL_isLine (va_wsS RL 56 yL_against wsL_against) := goodIn_app (goodIn_of _ (by decide +kernel)) ggL_isLine_L_against
set_option maxRecDepth 200000 in
theorem ggL_isLine_X6_pointOf : GoodIn wsL_isLine wsX6_pointOf := goodIn_ca (goodIn_r _ [101, 21, 102, 103, 104, 19, 105, 26, 27, 106, 107, 108, 31, 109, 33, 47, 110, 111, 112, 113, 56, 375, 376, 377, 378, 379, 380, 381, 382, 383, 384] rfl (by decide +kernel)) (goodIn_sub (fun _ h => List.mem_cons_of_mem _ (List.mem_append_left _ (List.mem_append_right _ h))) (by decide +kernel))
set_option maxRecDepth 200000 in
theorem gL_isLine_X6_pointOf : GoodIn wsL_isLine (wsV RL 83 RX6 yX6_pointOf wsX6_pointOf) := goodIn_app (goodIn_of _ (by decide +kernel)) ggL_isLine_X6_pointOf
set_option maxRecDepth 200000 in
theorem ggL_isLine_X6_bendAt : GoodIn wsL_isLine wsX6_bendAt := goodIn_ca (goodIn_r _ [117, 21, 102, 103, 104, 19, 105, 26, 27, 106, 107, 108, 31, 109, 33, 47, 118, 119, 120, 121, 122, 123, 124, 125, 126, 127, 128, 129, 130, 131, 132, 56, 133, 53, 54, 55, 134, 44, 45, 46, 375, 376, 377, 378, 379, 380, 381, 382, 383, 384] rfl (by decide +kernel)) (goodIn_sub (fun _ h => List.mem_cons_of_mem _ (List.mem_append_left _ (List.mem_append_right _ h))) (by decide +kernel))
set_option maxRecDepth 200000 in
theorem gL_isLine_X6_bendAt : GoodIn wsL_isLine (wsV RL 86 RX6 yX6_bendAt wsX6_bendAt) := goodIn_app (goodIn_of _ (by decide +kernel)) ggL_isLine_X6_bendAt
set_option maxRecDepth 200000 in
theorem ggL_isLine_L_bend : GoodIn wsL_isLine wsL_bend := goodIn_r _ [88, 57, 58, 5, 59, 7, 8, 9] rfl (by decide +kernel)
set_option maxRecDepth 200000 in
theorem gL_isLine_L_bend : GoodIn wsL_isLine (va_wsS RL 38 yL_bend wsL_bend) := goodIn_app (goodIn_of _ (by decide +kernel)) ggL_isLine_L_bend
set_option maxRecDepth 200000 in
theorem ggL_isLine_X6_bendOf : GoodIn wsL_isLine wsX6_bendOf := goodIn_ca (goodIn_r _ [138, 21, 102, 103, 104, 19, 105, 26, 27, 106, 107, 108, 31, 109, 33, 47, 139, 140, 141, 142, 143, 144, 145, 146, 44, 45, 46, 147, 53, 54, 55, 56, 148, 149, 65, 66, 67, 38, 150, 151, 152, 153, 119, 120, 121, 122, 123, 124, 125, 126, 127, 128, 129, 130, 131, 132, 133, 134, 375, 376, 377, 378, 379, 380, 381, 382, 383, 384] rfl (by decide +kernel)) (goodIn_sub (fun _ h => List.mem_cons_of_mem _ (List.mem_append_left _ (List.mem_append_right _ h))) (by decide +kernel))
set_option maxRecDepth 200000 in
theorem gL_isLine_X6_bendOf : GoodIn wsL_isLine (wsV RL 89 RX6 yX6_bendOf wsX6_bendOf) := goodIn_app (goodIn_of _ (by decide +kernel)) ggL_isLine_X6_bendOf
set_option maxRecDepth 200000 in
theorem ggL_isLine_L_bends : GoodIn wsL_isLine wsL_bends := goodIn_r _ [85, 68, 69, 5, 70, 57, 58, 59, 86, 87, 88, 7, 8, 9] rfl (by decide +kernel)
set_option maxRecDepth 200000 in
theorem gL_isLine_L_bends : GoodIn wsL_isLine (va_wsS RL 50 yL_bends wsL_bends) := goodIn_app (goodIn_of _ (by decide +kernel)) ggL_isLine_L_bends
set_option maxRecDepth 200000 in
theorem ggL_isLine_X6_whyNotLabelled : GoodIn wsL_isLine wsX6_whyNotLabelled := goodIn_ca (goodIn_r _ [157, 21, 102, 103, 104, 19, 105, 26, 27, 106, 107, 108, 31, 109, 33, 47, 158, 159, 141, 160, 161, 162, 163, 143, 144, 145, 146, 44, 45, 46, 147, 53, 54, 55, 56, 148, 149, 65, 66, 67, 38, 164, 140, 142, 150, 151, 152, 153, 119, 120, 121, 122, 123, 124, 125, 126, 127, 128, 129, 130, 131, 132, 133, 134, 165, 166, 167, 168, 169, 111, 112, 113, 170, 171, 172, 173, 174, 175, 176, 177, 178, 179, 180, 181, 182, 76, 77, 78, 79, 183, 184, 185, 186, 187, 188, 189, 190, 191, 192, 193, 194, 195, 196, 197, 198, 375, 376, 377, 378, 379, 380, 381, 382, 383, 384] rfl (by decide +kernel)) (goodIn_sub (fun _ h => List.mem_cons_of_mem _ (List.mem_append_left _ (List.mem_append_right _ h))) (by decide +kernel))
set_option maxRecDepth 200000 in
theorem gL_isLine_X6_whyNotLabelled : GoodIn wsL_isLine (wsV RL 92 RX6 yX6_whyNotLabelled wsX6_whyNotLabelled) := goodIn_app (goodIn_of _ (by decide +kernel)) ggL_isLine_X6_whyNotLabelled
set_option maxRecDepth 200000 in
theorem ggL_isLine_L_round : GoodIn wsL_isLine wsL_round := goodIn_r _ [201, 1, 3, 4, 5, 6, 7, 8, 9, 10, 11, 12, 13, 14, 15, 202, 203, 204, 57, 58, 59] rfl (by decide +kernel)
set_option maxRecDepth 200000 in
theorem gL_isLine_L_round : GoodIn wsL_isLine (va_wsS RL 95 yL_round wsL_round) := goodIn_app (goodIn_of _ (by decide +kernel)) ggL_isLine_L_round
set_option maxRecDepth 200000 in
theorem ggL_isLine_X6_placesOf : GoodIn wsL_isLine wsX6_placesOf := goodIn_ca (goodIn_r _ [208, 21, 22, 23, 24, 19, 25, 26, 27, 28, 29, 30, 31, 32, 33, 209, 210, 141, 211, 146, 44, 45, 46, 47, 212, 159, 160, 161, 162, 163, 143, 144, 145, 147, 53, 54, 55, 56, 148, 107, 108, 109, 149, 65, 66, 67, 38, 164, 140, 142, 150, 151, 152, 153, 119, 120, 121, 122, 123, 124, 125, 126, 127, 128, 129, 130, 131, 132, 133, 134, 165, 166, 167, 168, 169, 111, 112, 113, 170, 171, 172, 173, 174, 175, 176, 177, 178, 179, 180, 181, 182, 76, 77, 78, 79, 183, 184, 185, 186, 187, 188, 189, 190, 191, 192, 193, 194, 195, 196, 197, 198, 375, 376, 377, 378, 379, 380, 381, 382, 383, 384] rfl (by decide +kernel)) (goodIn_sub (fun _ h => List.mem_cons_of_mem _ (List.mem_append_left _ (List.mem_append_right _ h))) (by decide +kernel))
set_option maxRecDepth 200000 in
theorem gL_isLine_X6_placesOf : GoodIn wsL_isLine (wsV RL 98 RX6 yX6_placesOf wsX6_placesOf) := goodIn_app (goodIn_of _ (by decide +kernel)) ggL_isLine_X6_placesOf
set_option maxRecDepth 200000 in
theorem ggL_isLine_X6_bestPlace : GoodIn wsL_isLine wsX6_bestPlace := goodIn_ca (goodIn_r _ [216, 21, 22, 23, 24, 19, 25, 26, 27, 28, 29, 30, 31, 32, 33, 217, 218, 141, 219, 146, 44, 45, 46, 47, 161, 162, 163, 143, 144, 145, 147, 53, 54, 55, 56, 148, 107, 108, 109, 149, 65, 66, 67, 38, 164, 140, 142, 150, 151, 152, 153, 119, 120, 121, 122, 123, 124, 125, 126, 127, 128, 129, 130, 131, 132, 133, 134, 165, 166, 167, 168, 169, 111, 112, 113, 170, 171, 172, 173, 174, 175, 176, 177, 178, 179, 180, 181, 182, 76, 77, 78, 79, 183, 184, 185, 186, 187, 188, 189, 190, 191, 192, 193, 194, 195, 196, 197, 198, 375, 376, 377, 378, 379, 380, 381, 382, 383, 384] rfl (by decide +kernel)) (goodIn_sub (fun _ h => List.mem_cons_of_mem _ (List.mem_append_left _ (List.mem_append_right _ h))) (by decide +kernel))
set_option maxRecDepth 200000 in
theorem gL_isLine_X6_bestPlace : GoodIn wsL_isLine (wsV RL 101 RX6 yX6_bestPlace wsX6_bestPlace) := goodIn_app (goodIn_of _ (by decide +kernel)) ggL_isLine_X6_bestPlace
set_option maxRecDepth 200000 in
theorem ggL_isLine_L_best : GoodIn wsL_isLine wsL_best := goodIn_r _ [222, 1, 3, 4, 5, 6, 7, 8, 9, 10, 11, 12, 13, 14, 15, 80, 81, 82, 83, 84, 85, 68, 69, 70, 57, 58, 59, 86, 87, 88, 89, 90, 91, 92, 93, 94, 95, 96, 97] rfl (by decide +kernel)
set_option maxRecDepth 200000 in
theorem gL_isLine_L_best : GoodIn wsL_isLine (va_wsS RL 104 yL_best wsL_best) := goodIn_app (goodIn_of _ (by decide +kernel)) ggL_isLine_L_best
set_option maxRecDepth 200000 in
theorem ggL_isLine_X6_isTurned : GoodIn wsL_isLine wsX6_isTurned := goodIn_ca (goodIn_r _ [226, 21, 22, 23, 24, 19, 25, 26, 27, 28, 29, 30, 31, 32, 33, 75, 76, 77, 78, 79, 227, 228, 141, 229, 169, 111, 112, 113, 47, 56, 150, 151, 152, 149, 65, 66, 67, 38, 172, 173, 375, 376, 377, 378, 379, 380, 381, 382, 383, 384] rfl (by decide +kernel)) (goodIn_sub (fun _ h => List.mem_cons_of_mem _ (List.mem_append_left _ (List.mem_append_right _ h))) (by decide +kernel))
set_option maxRecDepth 200000 in
theorem gL_isLine_X6_isTurned : GoodIn wsL_isLine (wsV RL 107 RX6 yX6_isTurned wsX6_isTurned) := goodIn_app (goodIn_of _ (by decide +kernel)) ggL_isLine_X6_isTurned
set_option maxRecDepth 200000 in
theorem ggL_isLine_X6_readFrom : GoodIn wsL_isLine wsX6_readFrom := goodIn_ca (goodIn_r _ [233, 21, 22, 23, 24, 19, 25, 26, 27, 28, 29, 30, 31, 32, 33, 75, 76, 77, 78, 79, 227, 228, 141, 229, 169, 111, 112, 113, 47, 56, 150, 151, 152, 149, 65, 66, 67, 38, 172, 173, 234, 110, 375, 376, 377, 378, 379, 380, 381, 382, 383, 384] rfl (by decide +kernel)) (goodIn_sub (fun _ h => List.mem_cons_of_mem _ (List.mem_append_left _ (List.mem_append_right _ h))) (by decide +kernel))
set_option maxRecDepth 200000 in
theorem gL_isLine_X6_readFrom : GoodIn wsL_isLine (wsV RL 110 RX6 yX6_readFrom wsX6_readFrom) := goodIn_app (goodIn_of _ (by decide +kernel)) ggL_isLine_X6_readFrom
set_option maxRecDepth 200000 in
theorem ggL_isLine_X6_lineRound : GoodIn wsL_isLine wsX6_lineRound := goodIn_ca (goodIn_r _ [238, 21, 22, 23, 24, 19, 25, 26, 27, 28, 29, 30, 31, 32, 33, 239, 240, 241, 242, 243, 111, 112, 113, 47, 56, 244, 179, 180, 181, 245, 246, 247, 248, 53, 54, 55, 249, 250, 251, 252, 134, 44, 45, 46, 253, 254, 255, 256, 170, 171, 172, 173, 257, 375, 376, 377, 378, 379, 380, 381, 382, 383, 384] rfl (by decide +kernel)) (goodIn_sub (fun _ h => List.mem_cons_of_mem _ (List.mem_append_left _ (List.mem_append_right _ h))) (by decide +kernel))
set_option maxRecDepth 200000 in
theorem gL_isLine_X6_lineRound : GoodIn wsL_isLine (wsV RL 113 RX6 yX6_lineRound wsX6_lineRound) := goodIn_app (goodIn_of _ (by decide +kernel)) ggL_isLine_X6_lineRound
set_option maxRecDepth 200000 in
theorem ggL_isLine_X6_isSteady : GoodIn wsL_isLine wsX6_isSteady := goodIn_ca (goodIn_r _ [261, 21, 188, 123, 124, 125, 22, 23, 24, 19, 25, 26, 27, 28, 29, 30, 31, 32, 33, 239, 240, 241, 242, 243, 111, 112, 113, 47, 56, 244, 179, 180, 181, 245, 246, 247, 248, 53, 54, 55, 249, 250, 251, 252, 134, 44, 45, 46, 253, 254, 255, 256, 170, 171, 172, 173, 257, 34, 35, 36, 37, 38, 375, 376, 377, 378, 379, 380, 381, 382, 383, 384] rfl (by decide +kernel)) (goodIn_sub (fun _ h => List.mem_cons_of_mem _ (List.mem_append_left _ (List.mem_append_right _ h))) (by decide +kernel))
set_option maxRecDepth 200000 in
theorem gL_isLine_X6_isSteady : GoodIn wsL_isLine (wsV RL 116 RX6 yX6_isSteady wsX6_isSteady) := goodIn_app (goodIn_of _ (by decide +kernel)) ggL_isLine_X6_isSteady
set_option maxRecDepth 200000 in
theorem ggL_isLine_X6_lengthBySteps : GoodIn wsL_isLine wsX6_lengthBySteps := goodIn_ca (goodIn_r _ [265, 21, 22, 23, 24, 19, 25, 26, 27, 28, 29, 30, 31, 32, 33, 43, 44, 45, 46, 47, 266, 130, 131, 132, 56, 267, 268, 269, 270, 271, 272, 273, 375, 376, 377, 378, 379, 380, 381, 382, 383, 384] rfl (by decide +kernel)) (goodIn_sub (fun _ h => List.mem_cons_of_mem _ (List.mem_append_left _ (List.mem_append_right _ h))) (by decide +kernel))
set_option maxRecDepth 200000 in
theorem gL_isLine_X6_lengthBySteps : GoodIn wsL_isLine (wsV RL 119 RX6 yX6_lengthBySteps wsX6_lengthBySteps) := goodIn_app (goodIn_of _ (by decide +kernel)) ggL_isLine_X6_lengthBySteps
set_option maxRecDepth 200000 in
theorem ggL_isLine_X6_lengthByKinds : GoodIn wsL_isLine wsX6_lengthByKinds := goodIn_ca (goodIn_r _ [277, 21, 22, 23, 24, 19, 25, 26, 27, 28, 29, 30, 31, 32, 33, 43, 44, 45, 46, 47, 266, 130, 131, 132, 56, 267, 268, 269, 270, 271, 272, 273, 375, 376, 377, 378, 379, 380, 381, 382, 383, 384] rfl (by decide +kernel)) (goodIn_sub (fun _ h => List.mem_cons_of_mem _ (List.mem_append_left _ (List.mem_append_right _ h))) (by decide +kernel))
set_option maxRecDepth 200000 in
theorem gL_isLine_X6_lengthByKinds : GoodIn wsL_isLine (wsV RL 123 RX6 yX6_lengthByKinds wsX6_lengthByKinds) := goodIn_app (goodIn_of _ (by decide +kernel)) ggL_isLine_X6_lengthByKinds
set_option maxRecDepth 200000 in
theorem ggL_isLine_X6_whyNotStepped : GoodIn wsL_isLine wsX6_whyNotStepped := goodIn_ca (goodIn_ca (goodIn_r _ [281, 21, 22, 23, 24, 19, 25, 26, 27, 28, 29, 30, 31, 32, 33, 282, 283, 284, 285, 286, 287, 288, 289, 290, 291, 292, 293, 133, 53, 54, 55, 47, 56, 134, 44, 45, 46, 253, 111, 112, 113, 294, 295, 296, 297, 298, 299, 300, 192, 172, 173, 193, 170, 171, 301, 302, 303, 304, 305, 250, 251, 252, 306, 307, 308, 309, 268, 269, 310, 311, 312, 313, 375, 376, 377, 378, 379, 380, 381, 382, 383, 384] rfl (by decide +kernel)) (goodIn_sub (fun _ h => List.mem_cons_of_mem _ (List.mem_append_left _ (List.mem_append_right _ h))) (by decide +kernel))) (goodIn_sub (fun _ h => List.mem_cons_of_mem _ (List.mem_append_right _ h)) (by decide +kernel))
set_option maxRecDepth 200000 in
theorem gL_isLine_X6_whyNotStepped : GoodIn wsL_isLine (wsV RL 126 RX6 yX6_whyNotStepped wsX6_whyNotStepped) := goodIn_app (goodIn_of _ (by decide +kernel)) ggL_isLine_X6_whyNotStepped
set_option maxRecDepth 200000 in
theorem ggL_isLine_L_why : GoodIn wsL_isLine wsL_why := goodIn_r _ [316, 1, 3, 4, 5, 6, 7, 8, 9, 10, 11, 12, 13, 14, 15, 57, 58, 59, 317, 318, 319] rfl (by decide +kernel)
set_option maxRecDepth 200000 in
theorem gL_isLine_L_why : GoodIn wsL_isLine (va_wsS RL 129 yL_why wsL_why) := goodIn_app (goodIn_of _ (by decide +kernel)) ggL_isLine_L_why
set_option maxRecDepth 200000 in
theorem ggL_isLine_L_low : GoodIn wsL_isLine wsL_low := goodIn_r _ [322, 323] rfl (by decide +kernel)
set_option maxRecDepth 200000 in
theorem gL_isLine_L_low : GoodIn wsL_isLine (va_wsS RL 133 yL_low wsL_low) := goodIn_app (goodIn_of _ (by decide +kernel)) ggL_isLine_L_low
set_option maxRecDepth 200000 in
theorem ggL_isLine_X6_isWithinByRays : GoodIn wsL_isLine wsX6_isWithinByRays := goodIn_ca (goodIn_r _ [327, 21, 22, 23, 24, 19, 25, 26, 27, 28, 29, 30, 31, 32, 33, 328, 329, 330, 298, 299, 300, 331, 246, 241, 247, 248, 53, 54, 55, 47, 56, 249, 250, 251, 252, 134, 44, 45, 46, 253, 111, 112, 113, 254, 255, 256, 170, 171, 172, 173, 257, 243, 375, 376, 377, 378, 379, 380, 381, 382, 383, 384] rfl (by decide +kernel)) (goodIn_sub (fun _ h => List.mem_cons_of_mem _ (List.mem_append_left _ (List.mem_append_right _ h))) (by decide +kernel))
set_option maxRecDepth 200000 in
theorem gL_isLine_X6_isWithinByRays : GoodIn wsL_isLine (wsV RL 136 RX6 yX6_isWithinByRays wsX6_isWithinByRays) := goodIn_app (goodIn_of _ (by decide +kernel)) ggL_isLine_X6_isWithinByRays
set_option maxRecDepth 200000 in
theorem ggL_isLine_L_isWithin : GoodIn wsL_isLine wsL_isWithin := goodIn_r _ [204, 57, 58, 5, 59] rfl (by decide +kernel)
set_option maxRecDepth 200000 in
theorem gL_isLine_L_isWithin : GoodIn wsL_isLine (va_wsS RL 59 yL_isWithin wsL_isWithin) := goodIn_app (goodIn_of _ (by decide +kernel)) ggL_isLine_L_isWithin
set_option maxRecDepth 200000 in
theorem ggL_isLine_X6_isWithinBySpreading : GoodIn wsL_isLine wsX6_isWithinBySpreading := goodIn_ca (goodIn_r _ [335, 21, 336, 22, 23, 24, 19, 25, 26, 27, 28, 29, 30, 31, 32, 33, 328, 329, 330, 298, 299, 300, 52, 53, 54, 55, 47, 56, 337, 338, 339, 340, 341, 342, 343, 44, 45, 46, 344, 111, 112, 113, 345, 346, 347, 170, 171, 172, 173, 348, 130, 131, 132, 349, 350, 351, 352, 288, 289, 353, 354, 355, 356, 357, 358, 359, 360, 361, 362, 363, 364, 365, 366, 367, 368, 369, 375, 376, 377, 378, 379, 380, 381, 382, 383, 384, 385, 386, 387] rfl (by decide +kernel)) (goodIn_sub (fun _ h => List.mem_cons_of_mem _ (List.mem_append_left _ (List.mem_append_right _ h))) (by decide +kernel))
set_option maxRecDepth 200000 in
theorem gL_isLine_X6_isWithinBySpreading : GoodIn wsL_isLine (wsV RL 140 RX6 yX6_isWithinBySpreading wsX6_isWithinBySpreading) := goodIn_app (goodIn_of _ (by decide +kernel)) ggL_isLine_X6_isWithinBySpreading
set_option maxRecDepth 200000 in
theorem ggL_isLine_X6_lineAt : GoodIn wsL_isLine wsX6_lineAt := goodIn_ca (goodIn_r _ [373, 21, 328, 329, 19, 330, 26, 27, 298, 299, 300, 374, 302, 303, 31, 304, 33, 305, 250, 251, 252, 134, 44, 45, 46, 47, 253, 111, 112, 113, 56, 375, 376, 377, 378, 379, 380, 381, 382, 383, 384] rfl (by decide +kernel)) (goodIn_sub (fun _ h => List.mem_cons_of_mem _ (List.mem_append_left _ (List.mem_append_right _ h))) (by decide +kernel))
set_option maxRecDepth 200000 in
theorem gL_isLine_X6_lineAt : GoodIn wsL_isLine (wsV RL 143 RX6 yX6_lineAt wsX6_lineAt) := goodIn_app (goodIn_of _ (by decide +kernel)) ggL_isLine_X6_lineAt
set_option maxRecDepth 200000 in
theorem ggL_isLine_L_owner : GoodIn wsL_isLine wsL_owner := goodIn_r _ [319, 1, 3, 4, 5, 6, 7, 8, 9, 10, 11, 12, 13, 14, 15] rfl (by decide +kernel)
set_option maxRecDepth 200000 in
theorem gL_isLine_L_owner : GoodIn wsL_isLine (va_wsS RL 30 yL_owner wsL_owner) := goodIn_app (goodIn_of _ (by decide +kernel)) ggL_isLine_L_owner
theorem dL_isLine_0 : decode cL_isLine 0 = .ok (.bipush 61, 2) := by decide +kernel
theorem dL_isLine_2 : decode cL_isLine 2 = .ok (.newarray .int, 2) := by decide +kernel
theorem dL_isLine_4 : decode cL_isLine 4 = .ok (.astore 5, 2) := by decide +kernel
theorem dL_isLine_6 : decode cL_isLine 6 = .ok (.aload_n 1, 1) := by decide +kernel
theorem dL_isLine_7 : decode cL_isLine 7 = .ok (.aload_n 2, 1) := by decide +kernel
theorem dL_isLine_8 : decode cL_isLine 8 = .ok (.iload_n 3, 1) := by decide +kernel
theorem dL_isLine_9 : decode cL_isLine 9 = .ok (.aload 5, 2) := by decide +kernel
theorem dL_isLine_11 : decode cL_isLine 11 = .ok (.invokestatic 22, 3) := by decide +kernel
theorem dL_isLine_14 : decode cL_isLine 14 = .ok (.aload_n 1, 1) := by decide +kernel
theorem dL_isLine_15 : decode cL_isLine 15 = .ok (.iconst 4, 1) := by decide +kernel
theorem dL_isLine_16 : decode cL_isLine 16 = .ok (.iload_n 3, 1) := by decide +kernel
theorem dL_isLine_17 : decode cL_isLine 17 = .ok (.imul, 1) := by decide +kernel
theorem dL_isLine_18 : decode cL_isLine 18 = .ok (.iconst 2, 1) := by decide +kernel
theorem dL_isLine_19 : decode cL_isLine 19 = .ok (.iadd, 1) := by decide +kernel
theorem dL_isLine_20 : decode cL_isLine 20 = .ok (.iaload, 1) := by decide +kernel
theorem dL_isLine_21 : decode cL_isLine 21 = .ok (.istore 6, 2) := by decide +kernel
theorem dL_isLine_23 : decode cL_isLine 23 = .ok (.aload_n 1, 1) := by decide +kernel
theorem dL_isLine_24 : decode cL_isLine 24 = .ok (.iconst 4, 1) := by decide +kernel
theorem dL_isLine_25 : decode cL_isLine 25 = .ok (.iload_n 3, 1) := by decide +kernel
theorem dL_isLine_26 : decode cL_isLine 26 = .ok (.imul, 1) := by decide +kernel
theorem dL_isLine_27 : decode cL_isLine 27 = .ok (.iconst 3, 1) := by decide +kernel
theorem dL_isLine_28 : decode cL_isLine 28 = .ok (.iadd, 1) := by decide +kernel
theorem dL_isLine_29 : decode cL_isLine 29 = .ok (.iaload, 1) := by decide +kernel
theorem dL_isLine_30 : decode cL_isLine 30 = .ok (.istore 7, 2) := by decide +kernel
theorem dL_isLine_32 : decode cL_isLine 32 = .ok (.iconst 0, 1) := by decide +kernel
theorem dL_isLine_33 : decode cL_isLine 33 = .ok (.istore 8, 2) := by decide +kernel
theorem dL_isLine_35 : decode cL_isLine 35 = .ok (.iconst 0, 1) := by decide +kernel
theorem dL_isLine_36 : decode cL_isLine 36 = .ok (.istore 9, 2) := by decide +kernel
theorem dL_isLine_38 : decode cL_isLine 38 = .ok (.dconst 0, 1) := by decide +kernel
theorem dL_isLine_39 : decode cL_isLine 39 = .ok (.dstore 10, 2) := by decide +kernel
theorem dL_isLine_41 : decode cL_isLine 41 = .ok (.aload_n 0, 1) := by decide +kernel
theorem dL_isLine_42 : decode cL_isLine 42 = .ok (.iload_n 3, 1) := by decide +kernel
theorem dL_isLine_43 : decode cL_isLine 43 = .ok (.invokevirtual 63, 3) := by decide +kernel
theorem dL_isLine_46 : decode cL_isLine 46 = .ok (.aload_n 1, 1) := by decide +kernel
theorem dL_isLine_47 : decode cL_isLine 47 = .ok (.iconst 4, 1) := by decide +kernel
theorem dL_isLine_48 : decode cL_isLine 48 = .ok (.iload_n 3, 1) := by decide +kernel
theorem dL_isLine_49 : decode cL_isLine 49 = .ok (.imul, 1) := by decide +kernel
theorem dL_isLine_50 : decode cL_isLine 50 = .ok (.iaload, 1) := by decide +kernel
theorem dL_isLine_51 : decode cL_isLine 51 = .ok (.if_icmp .ne 55, 3) := by decide +kernel
theorem dL_isLine_54 : decode cL_isLine 54 = .ok (.aload_n 0, 1) := by decide +kernel
theorem dL_isLine_55 : decode cL_isLine 55 = .ok (.iload_n 3, 1) := by decide +kernel
theorem dL_isLine_56 : decode cL_isLine 56 = .ok (.invokevirtual 68, 3) := by decide +kernel
theorem dL_isLine_59 : decode cL_isLine 59 = .ok (.iload 6, 2) := by decide +kernel
theorem dL_isLine_61 : decode cL_isLine 61 = .ok (.if_icmp .ne 45, 3) := by decide +kernel
theorem dL_isLine_64 : decode cL_isLine 64 = .ok (.aload_n 0, 1) := by decide +kernel
theorem dL_isLine_65 : decode cL_isLine 65 = .ok (.iload_n 3, 1) := by decide +kernel
theorem dL_isLine_66 : decode cL_isLine 66 = .ok (.invokevirtual 71, 3) := by decide +kernel
theorem dL_isLine_69 : decode cL_isLine 69 = .ok (.aload_n 1, 1) := by decide +kernel
theorem dL_isLine_70 : decode cL_isLine 70 = .ok (.iload_n 3, 1) := by decide +kernel
theorem dL_isLine_71 : decode cL_isLine 71 = .ok (.aload 5, 2) := by decide +kernel
theorem dL_isLine_73 : decode cL_isLine 73 = .ok (.invokestatic 26, 3) := by decide +kernel
theorem dL_isLine_76 : decode cL_isLine 76 = .ok (.if_icmp .ne 30, 3) := by decide +kernel
theorem dL_isLine_79 : decode cL_isLine 79 = .ok (.aload_n 0, 1) := by decide +kernel
theorem dL_isLine_80 : decode cL_isLine 80 = .ok (.iload_n 3, 1) := by decide +kernel
theorem dL_isLine_81 : decode cL_isLine 81 = .ok (.invokevirtual 75, 3) := by decide +kernel
theorem dL_isLine_84 : decode cL_isLine 84 = .ok (.aload_n 1, 1) := by decide +kernel
theorem dL_isLine_85 : decode cL_isLine 85 = .ok (.iload_n 3, 1) := by decide +kernel
theorem dL_isLine_86 : decode cL_isLine 86 = .ok (.invokestatic 34, 3) := by decide +kernel
theorem dL_isLine_89 : decode cL_isLine 89 = .ok (.if_icmp .ne 17, 3) := by decide +kernel
theorem dL_isLine_92 : decode cL_isLine 92 = .ok (.aload_n 0, 1) := by decide +kernel
theorem dL_isLine_93 : decode cL_isLine 93 = .ok (.iload_n 3, 1) := by decide +kernel
theorem dL_isLine_94 : decode cL_isLine 94 = .ok (.invokevirtual 78, 3) := by decide +kernel
theorem dL_isLine_97 : decode cL_isLine 97 = .ok (.iload 7, 2) := by decide +kernel
theorem dL_isLine_99 : decode cL_isLine 99 = .ok (.if_icmp .ne 7, 3) := by decide +kernel
theorem dL_isLine_102 : decode cL_isLine 102 = .ok (.iconst 1, 1) := by decide +kernel
theorem dL_isLine_103 : decode cL_isLine 103 = .ok (.goto 4, 3) := by decide +kernel
theorem dL_isLine_106 : decode cL_isLine 106 = .ok (.iconst 0, 1) := by decide +kernel
theorem dL_isLine_107 : decode cL_isLine 107 = .ok (.istore 12, 2) := by decide +kernel
theorem dL_isLine_109 : decode cL_isLine 109 = .ok (.iconst 0, 1) := by decide +kernel
theorem dL_isLine_110 : decode cL_isLine 110 = .ok (.istore 13, 2) := by decide +kernel
theorem dL_isLine_112 : decode cL_isLine 112 = .ok (.iload 13, 2) := by decide +kernel
theorem dL_isLine_114 : decode cL_isLine 114 = .ok (.iload 6, 2) := by decide +kernel
theorem dL_isLine_116 : decode cL_isLine 116 = .ok (.if_icmp .gt 176, 3) := by decide +kernel
theorem dL_isLine_119 : decode cL_isLine 119 = .ok (.iload 12, 2) := by decide +kernel
theorem dL_isLine_121 : decode cL_isLine 121 = .ok (.ifCond .eq 171, 3) := by decide +kernel
theorem dL_isLine_124 : decode cL_isLine 124 = .ok (.iload 8, 2) := by decide +kernel
theorem dL_isLine_126 : decode cL_isLine 126 = .ok (.iload 13, 2) := by decide +kernel
theorem dL_isLine_128 : decode cL_isLine 128 = .ok (.iload 6, 2) := by decide +kernel
theorem dL_isLine_130 : decode cL_isLine 130 = .ok (.if_icmp .ge 15, 3) := by decide +kernel
theorem dL_isLine_133 : decode cL_isLine 133 = .ok (.aload_n 2, 1) := by decide +kernel
theorem dL_isLine_134 : decode cL_isLine 134 = .ok (.iload_n 3, 1) := by decide +kernel
theorem dL_isLine_135 : decode cL_isLine 135 = .ok (.iload 13, 2) := by decide +kernel
theorem dL_isLine_137 : decode cL_isLine 137 = .ok (.invokestatic 9, 3) := by decide +kernel
theorem dL_isLine_140 : decode cL_isLine 140 = .ok (.iconst 2, 1) := by decide +kernel
theorem dL_isLine_141 : decode cL_isLine 141 = .ok (.irem, 1) := by decide +kernel
theorem dL_isLine_142 : decode cL_isLine 142 = .ok (.goto 4, 3) := by decide +kernel
theorem dL_isLine_145 : decode cL_isLine 145 = .ok (.iconst 0, 1) := by decide +kernel
theorem dL_isLine_146 : decode cL_isLine 146 = .ok (.iadd, 1) := by decide +kernel
theorem dL_isLine_147 : decode cL_isLine 147 = .ok (.istore 8, 2) := by decide +kernel
theorem dL_isLine_149 : decode cL_isLine 149 = .ok (.dload 10, 2) := by decide +kernel
theorem dL_isLine_151 : decode cL_isLine 151 = .ok (.iload 13, 2) := by decide +kernel
theorem dL_isLine_153 : decode cL_isLine 153 = .ok (.iload 6, 2) := by decide +kernel
theorem dL_isLine_155 : decode cL_isLine 155 = .ok (.if_icmp .ne 7, 3) := by decide +kernel
theorem dL_isLine_158 : decode cL_isLine 158 = .ok (.dconst 0, 1) := by decide +kernel
theorem dL_isLine_159 : decode cL_isLine 159 = .ok (.goto 23, 3) := by decide +kernel
theorem dL_isLine_162 : decode cL_isLine 162 = .ok (.aload_n 2, 1) := by decide +kernel
theorem dL_isLine_163 : decode cL_isLine 163 = .ok (.iload_n 3, 1) := by decide +kernel
theorem dL_isLine_164 : decode cL_isLine 164 = .ok (.iload 13, 2) := by decide +kernel
theorem dL_isLine_166 : decode cL_isLine 166 = .ok (.invokestatic 9, 3) := by decide +kernel
theorem dL_isLine_169 : decode cL_isLine 169 = .ok (.iconst 2, 1) := by decide +kernel
theorem dL_isLine_170 : decode cL_isLine 170 = .ok (.irem, 1) := by decide +kernel
theorem dL_isLine_171 : decode cL_isLine 171 = .ok (.iconst 1, 1) := by decide +kernel
theorem dL_isLine_172 : decode cL_isLine 172 = .ok (.if_icmp .ne 9, 3) := by decide +kernel
theorem dL_isLine_175 : decode cL_isLine 175 = .ok (.ldc2_w 81, 3) := by decide +kernel
theorem dL_isLine_178 : decode cL_isLine 178 = .ok (.goto 4, 3) := by decide +kernel
theorem dL_isLine_181 : decode cL_isLine 181 = .ok (.dconst 1, 1) := by decide +kernel
theorem dL_isLine_182 : decode cL_isLine 182 = .ok (.dadd, 1) := by decide +kernel
theorem dL_isLine_183 : decode cL_isLine 183 = .ok (.dstore 10, 2) := by decide +kernel
theorem dL_isLine_185 : decode cL_isLine 185 = .ok (.aload_n 1, 1) := by decide +kernel
theorem dL_isLine_186 : decode cL_isLine 186 = .ok (.aload_n 2, 1) := by decide +kernel
theorem dL_isLine_187 : decode cL_isLine 187 = .ok (.iload_n 3, 1) := by decide +kernel
theorem dL_isLine_188 : decode cL_isLine 188 = .ok (.aload 5, 2) := by decide +kernel
theorem dL_isLine_190 : decode cL_isLine 190 = .ok (.iload 13, 2) := by decide +kernel
theorem dL_isLine_192 : decode cL_isLine 192 = .ok (.invokestatic 56, 3) := by decide +kernel
theorem dL_isLine_195 : decode cL_isLine 195 = .ok (.istore 14, 2) := by decide +kernel
theorem dL_isLine_197 : decode cL_isLine 197 = .ok (.iload 9, 2) := by decide +kernel
theorem dL_isLine_199 : decode cL_isLine 199 = .ok (.iload 14, 2) := by decide +kernel
theorem dL_isLine_201 : decode cL_isLine 201 = .ok (.ifCond .ne 7, 3) := by decide +kernel
theorem dL_isLine_204 : decode cL_isLine 204 = .ok (.iconst 1, 1) := by decide +kernel
theorem dL_isLine_205 : decode cL_isLine 205 = .ok (.goto 4, 3) := by decide +kernel
theorem dL_isLine_208 : decode cL_isLine 208 = .ok (.iconst 0, 1) := by decide +kernel
theorem dL_isLine_209 : decode cL_isLine 209 = .ok (.iadd, 1) := by decide +kernel
theorem dL_isLine_210 : decode cL_isLine 210 = .ok (.istore 9, 2) := by decide +kernel
theorem dL_isLine_212 : decode cL_isLine 212 = .ok (.aload_n 0, 1) := by decide +kernel
theorem dL_isLine_213 : decode cL_isLine 213 = .ok (.iload_n 3, 1) := by decide +kernel
theorem dL_isLine_214 : decode cL_isLine 214 = .ok (.iload 13, 2) := by decide +kernel
theorem dL_isLine_216 : decode cL_isLine 216 = .ok (.invokevirtual 83, 3) := by decide +kernel
theorem dL_isLine_219 : decode cL_isLine 219 = .ok (.aload 5, 2) := by decide +kernel
theorem dL_isLine_221 : decode cL_isLine 221 = .ok (.iload 13, 2) := by decide +kernel
theorem dL_isLine_223 : decode cL_isLine 223 = .ok (.iaload, 1) := by decide +kernel
theorem dL_isLine_224 : decode cL_isLine 224 = .ok (.if_icmp .ne 59, 3) := by decide +kernel
theorem dL_isLine_227 : decode cL_isLine 227 = .ok (.aload_n 0, 1) := by decide +kernel
theorem dL_isLine_228 : decode cL_isLine 228 = .ok (.iload_n 3, 1) := by decide +kernel
theorem dL_isLine_229 : decode cL_isLine 229 = .ok (.iload 13, 2) := by decide +kernel
theorem dL_isLine_231 : decode cL_isLine 231 = .ok (.invokevirtual 86, 3) := by decide +kernel
theorem dL_isLine_234 : decode cL_isLine 234 = .ok (.aload_n 1, 1) := by decide +kernel
theorem dL_isLine_235 : decode cL_isLine 235 = .ok (.aload_n 2, 1) := by decide +kernel
theorem dL_isLine_236 : decode cL_isLine 236 = .ok (.iload_n 3, 1) := by decide +kernel
theorem dL_isLine_237 : decode cL_isLine 237 = .ok (.aload 5, 2) := by decide +kernel
theorem dL_isLine_239 : decode cL_isLine 239 = .ok (.iload 13, 2) := by decide +kernel
theorem dL_isLine_241 : decode cL_isLine 241 = .ok (.invokestatic 38, 3) := by decide +kernel
theorem dL_isLine_244 : decode cL_isLine 244 = .ok (.if_icmp .ne 39, 3) := by decide +kernel
theorem dL_isLine_247 : decode cL_isLine 247 = .ok (.aload_n 0, 1) := by decide +kernel
theorem dL_isLine_248 : decode cL_isLine 248 = .ok (.iload_n 3, 1) := by decide +kernel
theorem dL_isLine_249 : decode cL_isLine 249 = .ok (.iload 13, 2) := by decide +kernel
theorem dL_isLine_251 : decode cL_isLine 251 = .ok (.invokevirtual 89, 3) := by decide +kernel
theorem dL_isLine_254 : decode cL_isLine 254 = .ok (.aload_n 1, 1) := by decide +kernel
theorem dL_isLine_255 : decode cL_isLine 255 = .ok (.aload_n 2, 1) := by decide +kernel
theorem dL_isLine_256 : decode cL_isLine 256 = .ok (.iload_n 3, 1) := by decide +kernel
theorem dL_isLine_257 : decode cL_isLine 257 = .ok (.aload 5, 2) := by decide +kernel
theorem dL_isLine_259 : decode cL_isLine 259 = .ok (.iload 13, 2) := by decide +kernel
theorem dL_isLine_261 : decode cL_isLine 261 = .ok (.invokestatic 50, 3) := by decide +kernel
theorem dL_isLine_264 : decode cL_isLine 264 = .ok (.if_icmp .ne 19, 3) := by decide +kernel
theorem dL_isLine_267 : decode cL_isLine 267 = .ok (.aload_n 0, 1) := by decide +kernel
theorem dL_isLine_268 : decode cL_isLine 268 = .ok (.iload_n 3, 1) := by decide +kernel
theorem dL_isLine_269 : decode cL_isLine 269 = .ok (.iload 13, 2) := by decide +kernel
theorem dL_isLine_271 : decode cL_isLine 271 = .ok (.invokevirtual 92, 3) := by decide +kernel
theorem dL_isLine_274 : decode cL_isLine 274 = .ok (.iload 14, 2) := by decide +kernel
theorem dL_isLine_276 : decode cL_isLine 276 = .ok (.if_icmp .ne 7, 3) := by decide +kernel
theorem dL_isLine_279 : decode cL_isLine 279 = .ok (.iconst 1, 1) := by decide +kernel
theorem dL_isLine_280 : decode cL_isLine 280 = .ok (.goto 4, 3) := by decide +kernel
theorem dL_isLine_283 : decode cL_isLine 283 = .ok (.iconst 0, 1) := by decide +kernel
theorem dL_isLine_284 : decode cL_isLine 284 = .ok (.istore 12, 2) := by decide +kernel
theorem dL_isLine_286 : decode cL_isLine 286 = .ok (.iinc 13 1, 3) := by decide +kernel
theorem dL_isLine_289 : decode cL_isLine 289 = .ok (.goto (-177), 3) := by decide +kernel
theorem dL_isLine_292 : decode cL_isLine 292 = .ok (.iload 7, 2) := by decide +kernel
theorem dL_isLine_294 : decode cL_isLine 294 = .ok (.ifCond .ge 7, 3) := by decide +kernel
theorem dL_isLine_297 : decode cL_isLine 297 = .ok (.iconst 0, 1) := by decide +kernel
theorem dL_isLine_298 : decode cL_isLine 298 = .ok (.goto 16, 3) := by decide +kernel
theorem dL_isLine_301 : decode cL_isLine 301 = .ok (.aload 5, 2) := by decide +kernel
theorem dL_isLine_303 : decode cL_isLine 303 = .ok (.iload 7, 2) := by decide +kernel
theorem dL_isLine_305 : decode cL_isLine 305 = .ok (.aload_n 1, 1) := by decide +kernel
theorem dL_isLine_306 : decode cL_isLine 306 = .ok (.iload_n 3, 1) := by decide +kernel
theorem dL_isLine_307 : decode cL_isLine 307 = .ok (.invokestatic 34, 3) := by decide +kernel
theorem dL_isLine_310 : decode cL_isLine 310 = .ok (.iadd, 1) := by decide +kernel
theorem dL_isLine_311 : decode cL_isLine 311 = .ok (.iconst 1, 1) := by decide +kernel
theorem dL_isLine_312 : decode cL_isLine 312 = .ok (.isub, 1) := by decide +kernel
theorem dL_isLine_313 : decode cL_isLine 313 = .ok (.iaload, 1) := by decide +kernel
theorem dL_isLine_314 : decode cL_isLine 314 = .ok (.istore 13, 2) := by decide +kernel
theorem dL_isLine_316 : decode cL_isLine 316 = .ok (.iload 7, 2) := by decide +kernel
theorem dL_isLine_318 : decode cL_isLine 318 = .ok (.ifCond .lt 23, 3) := by decide +kernel
theorem dL_isLine_321 : decode cL_isLine 321 = .ok (.iload 13, 2) := by decide +kernel
theorem dL_isLine_323 : decode cL_isLine 323 = .ok (.bipush 24, 2) := by decide +kernel
theorem dL_isLine_325 : decode cL_isLine 325 = .ok (.irem, 1) := by decide +kernel
theorem dL_isLine_326 : decode cL_isLine 326 = .ok (.aload 5, 2) := by decide +kernel
theorem dL_isLine_328 : decode cL_isLine 328 = .ok (.iload 7, 2) := by decide +kernel
theorem dL_isLine_330 : decode cL_isLine 330 = .ok (.iaload, 1) := by decide +kernel
theorem dL_isLine_331 : decode cL_isLine 331 = .ok (.bipush 24, 2) := by decide +kernel
theorem dL_isLine_333 : decode cL_isLine 333 = .ok (.irem, 1) := by decide +kernel
theorem dL_isLine_334 : decode cL_isLine 334 = .ok (.if_icmp .ge 7, 3) := by decide +kernel
theorem dL_isLine_337 : decode cL_isLine 337 = .ok (.iconst 1, 1) := by decide +kernel
theorem dL_isLine_338 : decode cL_isLine 338 = .ok (.goto 4, 3) := by decide +kernel
theorem dL_isLine_341 : decode cL_isLine 341 = .ok (.iconst 0, 1) := by decide +kernel
theorem dL_isLine_342 : decode cL_isLine 342 = .ok (.istore 14, 2) := by decide +kernel
theorem dL_isLine_344 : decode cL_isLine 344 = .ok (.aload_n 1, 1) := by decide +kernel
theorem dL_isLine_345 : decode cL_isLine 345 = .ok (.aload_n 2, 1) := by decide +kernel
theorem dL_isLine_346 : decode cL_isLine 346 = .ok (.iload_n 3, 1) := by decide +kernel
theorem dL_isLine_347 : decode cL_isLine 347 = .ok (.invokestatic 95, 3) := by decide +kernel
theorem dL_isLine_350 : decode cL_isLine 350 = .ok (.istore 15, 2) := by decide +kernel
theorem dL_isLine_352 : decode cL_isLine 352 = .ok (.iload 15, 2) := by decide +kernel
theorem dL_isLine_354 : decode cL_isLine 354 = .ok (.ifCond .ge 7, 3) := by decide +kernel
theorem dL_isLine_357 : decode cL_isLine 357 = .ok (.iconst 5, 1) := by decide +kernel
theorem dL_isLine_358 : decode cL_isLine 358 = .ok (.goto 15, 3) := by decide +kernel
theorem dL_isLine_361 : decode cL_isLine 361 = .ok (.aload_n 1, 1) := by decide +kernel
theorem dL_isLine_362 : decode cL_isLine 362 = .ok (.iconst 4, 1) := by decide +kernel
theorem dL_isLine_363 : decode cL_isLine 363 = .ok (.iload_n 3, 1) := by decide +kernel
theorem dL_isLine_364 : decode cL_isLine 364 = .ok (.imul, 1) := by decide +kernel
theorem dL_isLine_365 : decode cL_isLine 365 = .ok (.iaload, 1) := by decide +kernel
theorem dL_isLine_366 : decode cL_isLine 366 = .ok (.aload_n 1, 1) := by decide +kernel
theorem dL_isLine_367 : decode cL_isLine 367 = .ok (.iconst 4, 1) := by decide +kernel
theorem dL_isLine_368 : decode cL_isLine 368 = .ok (.iload 15, 2) := by decide +kernel
theorem dL_isLine_370 : decode cL_isLine 370 = .ok (.imul, 1) := by decide +kernel
theorem dL_isLine_371 : decode cL_isLine 371 = .ok (.iaload, 1) := by decide +kernel
theorem dL_isLine_372 : decode cL_isLine 372 = .ok (.isub, 1) := by decide +kernel
theorem dL_isLine_373 : decode cL_isLine 373 = .ok (.istore 16, 2) := by decide +kernel
theorem dL_isLine_375 : decode cL_isLine 375 = .ok (.iload 12, 2) := by decide +kernel
theorem dL_isLine_377 : decode cL_isLine 377 = .ok (.ifCond .eq 143, 3) := by decide +kernel
theorem dL_isLine_380 : decode cL_isLine 380 = .ok (.aload_n 0, 1) := by decide +kernel
theorem dL_isLine_381 : decode cL_isLine 381 = .ok (.iload_n 3, 1) := by decide +kernel
theorem dL_isLine_382 : decode cL_isLine 382 = .ok (.invokevirtual 98, 3) := by decide +kernel
theorem dL_isLine_385 : decode cL_isLine 385 = .ok (.iload 9, 2) := by decide +kernel
theorem dL_isLine_387 : decode cL_isLine 387 = .ok (.if_icmp .ne 133, 3) := by decide +kernel
theorem dL_isLine_390 : decode cL_isLine 390 = .ok (.aload_n 0, 1) := by decide +kernel
theorem dL_isLine_391 : decode cL_isLine 391 = .ok (.iload_n 3, 1) := by decide +kernel
theorem dL_isLine_392 : decode cL_isLine 392 = .ok (.invokevirtual 101, 3) := by decide +kernel
theorem dL_isLine_395 : decode cL_isLine 395 = .ok (.aload_n 1, 1) := by decide +kernel
theorem dL_isLine_396 : decode cL_isLine 396 = .ok (.aload_n 2, 1) := by decide +kernel
theorem dL_isLine_397 : decode cL_isLine 397 = .ok (.iload_n 3, 1) := by decide +kernel
theorem dL_isLine_398 : decode cL_isLine 398 = .ok (.invokestatic 104, 3) := by decide +kernel
theorem dL_isLine_401 : decode cL_isLine 401 = .ok (.if_icmp .ne 119, 3) := by decide +kernel
theorem dL_isLine_404 : decode cL_isLine 404 = .ok (.aload_n 0, 1) := by decide +kernel
theorem dL_isLine_405 : decode cL_isLine 405 = .ok (.iload_n 3, 1) := by decide +kernel
theorem dL_isLine_406 : decode cL_isLine 406 = .ok (.invokevirtual 107, 3) := by decide +kernel
theorem dL_isLine_409 : decode cL_isLine 409 = .ok (.iload 14, 2) := by decide +kernel
theorem dL_isLine_411 : decode cL_isLine 411 = .ok (.if_icmp .ne 109, 3) := by decide +kernel
theorem dL_isLine_414 : decode cL_isLine 414 = .ok (.aload_n 0, 1) := by decide +kernel
theorem dL_isLine_415 : decode cL_isLine 415 = .ok (.iload_n 3, 1) := by decide +kernel
theorem dL_isLine_416 : decode cL_isLine 416 = .ok (.invokevirtual 110, 3) := by decide +kernel
theorem dL_isLine_419 : decode cL_isLine 419 = .ok (.iload 7, 2) := by decide +kernel
theorem dL_isLine_421 : decode cL_isLine 421 = .ok (.ifCond .ge 7, 3) := by decide +kernel
theorem dL_isLine_424 : decode cL_isLine 424 = .ok (.iconst (-1), 1) := by decide +kernel
theorem dL_isLine_425 : decode cL_isLine 425 = .ok (.goto 18, 3) := by decide +kernel
theorem dL_isLine_428 : decode cL_isLine 428 = .ok (.iload 14, 2) := by decide +kernel
theorem dL_isLine_430 : decode cL_isLine 430 = .ok (.ifCond .eq 8, 3) := by decide +kernel
theorem dL_isLine_433 : decode cL_isLine 433 = .ok (.iload 13, 2) := by decide +kernel
theorem dL_isLine_435 : decode cL_isLine 435 = .ok (.goto 8, 3) := by decide +kernel
theorem dL_isLine_438 : decode cL_isLine 438 = .ok (.aload 5, 2) := by decide +kernel
theorem dL_isLine_440 : decode cL_isLine 440 = .ok (.iload 7, 2) := by decide +kernel
theorem dL_isLine_442 : decode cL_isLine 442 = .ok (.iaload, 1) := by decide +kernel
theorem dL_isLine_443 : decode cL_isLine 443 = .ok (.if_icmp .ne 77, 3) := by decide +kernel
theorem dL_isLine_446 : decode cL_isLine 446 = .ok (.aload_n 0, 1) := by decide +kernel
theorem dL_isLine_447 : decode cL_isLine 447 = .ok (.iload_n 3, 1) := by decide +kernel
theorem dL_isLine_448 : decode cL_isLine 448 = .ok (.invokevirtual 113, 3) := by decide +kernel
theorem dL_isLine_451 : decode cL_isLine 451 = .ok (.iload 15, 2) := by decide +kernel
theorem dL_isLine_453 : decode cL_isLine 453 = .ok (.if_icmp .ne 67, 3) := by decide +kernel
theorem dL_isLine_456 : decode cL_isLine 456 = .ok (.aload_n 0, 1) := by decide +kernel
theorem dL_isLine_457 : decode cL_isLine 457 = .ok (.iload_n 3, 1) := by decide +kernel
theorem dL_isLine_458 : decode cL_isLine 458 = .ok (.invokevirtual 116, 3) := by decide +kernel
theorem dL_isLine_461 : decode cL_isLine 461 = .ok (.iload 16, 2) := by decide +kernel
theorem dL_isLine_463 : decode cL_isLine 463 = .ok (.iconst 5, 1) := by decide +kernel
theorem dL_isLine_464 : decode cL_isLine 464 = .ok (.if_icmp .eq 10, 3) := by decide +kernel
theorem dL_isLine_467 : decode cL_isLine 467 = .ok (.iload 16, 2) := by decide +kernel
theorem dL_isLine_469 : decode cL_isLine 469 = .ok (.bipush (-5), 2) := by decide +kernel
theorem dL_isLine_471 : decode cL_isLine 471 = .ok (.if_icmp .ne 7, 3) := by decide +kernel
theorem dL_isLine_474 : decode cL_isLine 474 = .ok (.iconst 1, 1) := by decide +kernel
theorem dL_isLine_475 : decode cL_isLine 475 = .ok (.goto 4, 3) := by decide +kernel
theorem dL_isLine_478 : decode cL_isLine 478 = .ok (.iconst 0, 1) := by decide +kernel
theorem dL_isLine_479 : decode cL_isLine 479 = .ok (.if_icmp .ne 41, 3) := by decide +kernel
theorem dL_isLine_482 : decode cL_isLine 482 = .ok (.aload_n 0, 1) := by decide +kernel
theorem dL_isLine_483 : decode cL_isLine 483 = .ok (.iload_n 3, 1) := by decide +kernel
theorem dL_isLine_484 : decode cL_isLine 484 = .ok (.invokevirtual 119, 3) := by decide +kernel
theorem dL_isLine_487 : decode cL_isLine 487 = .ok (.dload 10, 2) := by decide +kernel
theorem dL_isLine_489 : decode cL_isLine 489 = .ok (.dcmp .l, 1) := by decide +kernel
theorem dL_isLine_490 : decode cL_isLine 490 = .ok (.ifCond .ne 30, 3) := by decide +kernel
theorem dL_isLine_493 : decode cL_isLine 493 = .ok (.aload_n 0, 1) := by decide +kernel
theorem dL_isLine_494 : decode cL_isLine 494 = .ok (.iload_n 3, 1) := by decide +kernel
theorem dL_isLine_495 : decode cL_isLine 495 = .ok (.invokevirtual 123, 3) := by decide +kernel
theorem dL_isLine_498 : decode cL_isLine 498 = .ok (.iload 6, 2) := by decide +kernel
theorem dL_isLine_500 : decode cL_isLine 500 = .ok (.iload 8, 2) := by decide +kernel
theorem dL_isLine_502 : decode cL_isLine 502 = .ok (.isub, 1) := by decide +kernel
theorem dL_isLine_503 : decode cL_isLine 503 = .ok (.i2d, 1) := by decide +kernel
theorem dL_isLine_504 : decode cL_isLine 504 = .ok (.iload 8, 2) := by decide +kernel
theorem dL_isLine_506 : decode cL_isLine 506 = .ok (.i2d, 1) := by decide +kernel
theorem dL_isLine_507 : decode cL_isLine 507 = .ok (.ldc2_w 81, 3) := by decide +kernel
theorem dL_isLine_510 : decode cL_isLine 510 = .ok (.dmul, 1) := by decide +kernel
theorem dL_isLine_511 : decode cL_isLine 511 = .ok (.dadd, 1) := by decide +kernel
theorem dL_isLine_512 : decode cL_isLine 512 = .ok (.dcmp .l, 1) := by decide +kernel
theorem dL_isLine_513 : decode cL_isLine 513 = .ok (.ifCond .ne 7, 3) := by decide +kernel
theorem dL_isLine_516 : decode cL_isLine 516 = .ok (.iconst 1, 1) := by decide +kernel
theorem dL_isLine_517 : decode cL_isLine 517 = .ok (.goto 4, 3) := by decide +kernel
theorem dL_isLine_520 : decode cL_isLine 520 = .ok (.iconst 0, 1) := by decide +kernel
theorem dL_isLine_521 : decode cL_isLine 521 = .ok (.istore 12, 2) := by decide +kernel
theorem dL_isLine_523 : decode cL_isLine 523 = .ok (.iconst 0, 1) := by decide +kernel
theorem dL_isLine_524 : decode cL_isLine 524 = .ok (.istore 17, 2) := by decide +kernel
theorem dL_isLine_526 : decode cL_isLine 526 = .ok (.iload 17, 2) := by decide +kernel
theorem dL_isLine_528 : decode cL_isLine 528 = .ok (.bipush 8, 2) := by decide +kernel
theorem dL_isLine_530 : decode cL_isLine 530 = .ok (.if_icmp .ge 39, 3) := by decide +kernel
theorem dL_isLine_533 : decode cL_isLine 533 = .ok (.iload 12, 2) := by decide +kernel
theorem dL_isLine_535 : decode cL_isLine 535 = .ok (.ifCond .eq 34, 3) := by decide +kernel
theorem dL_isLine_538 : decode cL_isLine 538 = .ok (.aload_n 0, 1) := by decide +kernel
theorem dL_isLine_539 : decode cL_isLine 539 = .ok (.iload_n 3, 1) := by decide +kernel
theorem dL_isLine_540 : decode cL_isLine 540 = .ok (.iload 17, 2) := by decide +kernel
theorem dL_isLine_542 : decode cL_isLine 542 = .ok (.invokevirtual 126, 3) := by decide +kernel
theorem dL_isLine_545 : decode cL_isLine 545 = .ok (.aload_n 1, 1) := by decide +kernel
theorem dL_isLine_546 : decode cL_isLine 546 = .ok (.aload_n 2, 1) := by decide +kernel
theorem dL_isLine_547 : decode cL_isLine 547 = .ok (.iload_n 3, 1) := by decide +kernel
theorem dL_isLine_548 : decode cL_isLine 548 = .ok (.iload 17, 2) := by decide +kernel
theorem dL_isLine_550 : decode cL_isLine 550 = .ok (.invokestatic 129, 3) := by decide +kernel
theorem dL_isLine_553 : decode cL_isLine 553 = .ok (.if_icmp .ne 7, 3) := by decide +kernel
theorem dL_isLine_556 : decode cL_isLine 556 = .ok (.iconst 1, 1) := by decide +kernel
theorem dL_isLine_557 : decode cL_isLine 557 = .ok (.goto 4, 3) := by decide +kernel
theorem dL_isLine_560 : decode cL_isLine 560 = .ok (.iconst 0, 1) := by decide +kernel
theorem dL_isLine_561 : decode cL_isLine 561 = .ok (.istore 12, 2) := by decide +kernel
theorem dL_isLine_563 : decode cL_isLine 563 = .ok (.iinc 17 1, 3) := by decide +kernel
theorem dL_isLine_566 : decode cL_isLine 566 = .ok (.goto (-40), 3) := by decide +kernel
theorem dL_isLine_569 : decode cL_isLine 569 = .ok (.iconst 0, 1) := by decide +kernel
theorem dL_isLine_570 : decode cL_isLine 570 = .ok (.istore 17, 2) := by decide +kernel
theorem dL_isLine_572 : decode cL_isLine 572 = .ok (.iload 17, 2) := by decide +kernel
theorem dL_isLine_574 : decode cL_isLine 574 = .ok (.iconst 5, 1) := by decide +kernel
theorem dL_isLine_575 : decode cL_isLine 575 = .ok (.if_icmp .ge 90, 3) := by decide +kernel
theorem dL_isLine_578 : decode cL_isLine 578 = .ok (.iload 12, 2) := by decide +kernel
theorem dL_isLine_580 : decode cL_isLine 580 = .ok (.ifCond .eq 85, 3) := by decide +kernel
theorem dL_isLine_583 : decode cL_isLine 583 = .ok (.iload 4, 2) := by decide +kernel
theorem dL_isLine_585 : decode cL_isLine 585 = .ok (.iconst 3, 1) := by decide +kernel
theorem dL_isLine_586 : decode cL_isLine 586 = .ok (.iload 17, 2) := by decide +kernel
theorem dL_isLine_588 : decode cL_isLine 588 = .ok (.imul, 1) := by decide +kernel
theorem dL_isLine_589 : decode cL_isLine 589 = .ok (.ishr, 1) := by decide +kernel
theorem dL_isLine_590 : decode cL_isLine 590 = .ok (.sipush 384, 3) := by decide +kernel
theorem dL_isLine_593 : decode cL_isLine 593 = .ok (.invokestatic 133, 3) := by decide +kernel
theorem dL_isLine_596 : decode cL_isLine 596 = .ok (.istore 18, 2) := by decide +kernel
theorem dL_isLine_598 : decode cL_isLine 598 = .ok (.aload_n 0, 1) := by decide +kernel
theorem dL_isLine_599 : decode cL_isLine 599 = .ok (.iload_n 3, 1) := by decide +kernel
theorem dL_isLine_600 : decode cL_isLine 600 = .ok (.iload 18, 2) := by decide +kernel
theorem dL_isLine_602 : decode cL_isLine 602 = .ok (.invokevirtual 136, 3) := by decide +kernel
theorem dL_isLine_605 : decode cL_isLine 605 = .ok (.aload_n 1, 1) := by decide +kernel
theorem dL_isLine_606 : decode cL_isLine 606 = .ok (.iload_n 3, 1) := by decide +kernel
theorem dL_isLine_607 : decode cL_isLine 607 = .ok (.aload 5, 2) := by decide +kernel
theorem dL_isLine_609 : decode cL_isLine 609 = .ok (.iload 18, 2) := by decide +kernel
theorem dL_isLine_611 : decode cL_isLine 611 = .ok (.invokestatic 59, 3) := by decide +kernel
theorem dL_isLine_614 : decode cL_isLine 614 = .ok (.if_icmp .ne 42, 3) := by decide +kernel
theorem dL_isLine_617 : decode cL_isLine 617 = .ok (.aload_n 0, 1) := by decide +kernel
theorem dL_isLine_618 : decode cL_isLine 618 = .ok (.iload_n 3, 1) := by decide +kernel
theorem dL_isLine_619 : decode cL_isLine 619 = .ok (.iload 18, 2) := by decide +kernel
theorem dL_isLine_621 : decode cL_isLine 621 = .ok (.invokevirtual 140, 3) := by decide +kernel
theorem dL_isLine_624 : decode cL_isLine 624 = .ok (.aload_n 1, 1) := by decide +kernel
theorem dL_isLine_625 : decode cL_isLine 625 = .ok (.iload_n 3, 1) := by decide +kernel
theorem dL_isLine_626 : decode cL_isLine 626 = .ok (.aload 5, 2) := by decide +kernel
theorem dL_isLine_628 : decode cL_isLine 628 = .ok (.iload 18, 2) := by decide +kernel
theorem dL_isLine_630 : decode cL_isLine 630 = .ok (.invokestatic 59, 3) := by decide +kernel
theorem dL_isLine_633 : decode cL_isLine 633 = .ok (.if_icmp .ne 23, 3) := by decide +kernel
theorem dL_isLine_636 : decode cL_isLine 636 = .ok (.aload_n 0, 1) := by decide +kernel
theorem dL_isLine_637 : decode cL_isLine 637 = .ok (.iload 18, 2) := by decide +kernel
theorem dL_isLine_639 : decode cL_isLine 639 = .ok (.invokevirtual 143, 3) := by decide +kernel
theorem dL_isLine_642 : decode cL_isLine 642 = .ok (.aload_n 1, 1) := by decide +kernel
theorem dL_isLine_643 : decode cL_isLine 643 = .ok (.aload_n 2, 1) := by decide +kernel
theorem dL_isLine_644 : decode cL_isLine 644 = .ok (.iload 18, 2) := by decide +kernel
theorem dL_isLine_646 : decode cL_isLine 646 = .ok (.invokestatic 30, 3) := by decide +kernel
theorem dL_isLine_649 : decode cL_isLine 649 = .ok (.if_icmp .ne 7, 3) := by decide +kernel
theorem dL_isLine_652 : decode cL_isLine 652 = .ok (.iconst 1, 1) := by decide +kernel
theorem dL_isLine_653 : decode cL_isLine 653 = .ok (.goto 4, 3) := by decide +kernel
theorem dL_isLine_656 : decode cL_isLine 656 = .ok (.iconst 0, 1) := by decide +kernel
theorem dL_isLine_657 : decode cL_isLine 657 = .ok (.istore 12, 2) := by decide +kernel
theorem dL_isLine_659 : decode cL_isLine 659 = .ok (.iinc 17 1, 3) := by decide +kernel
theorem dL_isLine_662 : decode cL_isLine 662 = .ok (.goto (-90), 3) := by decide +kernel
theorem dL_isLine_665 : decode cL_isLine 665 = .ok (.iload 12, 2) := by decide +kernel
theorem dL_isLine_667 : decode cL_isLine 667 = .ok (.ireturn, 1) := by decide +kernel
set_option maxRecDepth 200000 in
theorem ggL_areLines_X6_lines : GoodIn wsL_areLines wsX6_lines := goodIn_r _ [6, 7, 8, 9, 10, 11, 12, 13, 169, 170, 171, 172, 173, 174, 175, 176, 177, 178] rfl (by decide +kernel)
set_option maxRecDepth 200000 in
theorem gL_areLines_X6_lines : GoodIn wsL_areLines (wsV RL 146 RX6 yX6_lines wsX6_lines) := goodIn_app (goodIn_of _ (by decide +kernel)) ggL_areLines_X6_lines
set_option maxRecDepth 200000 in
theorem ggL_areLines_X6_gap : GoodIn wsL_areLines wsX6_gap := goodIn_r _ [17, 7, 18, 19, 20, 11, 21, 22, 169, 170, 171, 172, 173, 174, 175, 176, 177, 178] rfl (by decide +kernel)
set_option maxRecDepth 200000 in
theorem gL_areLines_X6_gap : GoodIn wsL_areLines (wsV RL 150 RX6 yX6_gap wsX6_gap) := goodIn_app (goodIn_of _ (by decide +kernel)) ggL_areLines_X6_gap
set_option maxRecDepth 200000 in
theorem ggL_areLines_L_walks : GoodIn wsL_areLines wsL_walks := goodIn_r _ [26, 27, 28, 25, 29, 30, 31, 32, 33, 34, 35] rfl (by decide +kernel)
set_option maxRecDepth 200000 in
theorem gL_areLines_L_walks : GoodIn wsL_areLines (va_wsS RL 22 yL_walks wsL_walks) := goodIn_app (goodIn_of _ (by decide +kernel)) ggL_areLines_L_walks
set_option maxRecDepth 200000 in
theorem ggL_areLines_L_far : GoodIn wsL_areLines wsL_far := goodIn_r _ [38, 1, 23, 24, 25, 26, 27, 28, 29, 30, 31, 32, 33, 34, 35, 39, 40, 41, 42, 43, 44] rfl (by decide +kernel)
set_option maxRecDepth 200000 in
theorem gL_areLines_L_far : GoodIn wsL_areLines (va_wsS RL 46 yL_far wsL_far) := goodIn_app (goodIn_of _ (by decide +kernel)) ggL_areLines_L_far
set_option maxRecDepth 200000 in
theorem ggL_areLines_L_low : GoodIn wsL_areLines wsL_low := goodIn_r _ [47, 48] rfl (by decide +kernel)
set_option maxRecDepth 200000 in
theorem gL_areLines_L_low : GoodIn wsL_areLines (va_wsS RL 133 yL_low wsL_low) := goodIn_app (goodIn_of _ (by decide +kernel)) ggL_areLines_L_low
set_option maxRecDepth 200000 in
theorem ggL_areLines_L_isWithin : GoodIn wsL_areLines wsL_isWithin := goodIn_r _ [51, 52, 53, 25, 54] rfl (by decide +kernel)
set_option maxRecDepth 200000 in
theorem gL_areLines_L_isWithin : GoodIn wsL_areLines (va_wsS RL 59 yL_isWithin wsL_isWithin) := goodIn_app (goodIn_of _ (by decide +kernel)) ggL_areLines_L_isWithin
set_option maxRecDepth 200000 in
theorem ggL_areLines_X6_lineByLevel : GoodIn wsL_areLines wsX6_lineByLevel := goodIn_ca (goodIn_r _ [58, 59, 60, 7, 61, 62, 63, 11, 64, 13, 65, 66, 67, 68, 69, 70, 71, 72, 73, 74, 75, 76, 77, 169, 170, 171, 172, 173, 174, 175, 176, 177, 178] rfl (by decide +kernel)) (goodIn_sub (fun _ h => List.mem_cons_of_mem _ (List.mem_append_right _ h)) (by decide +kernel))
set_option maxRecDepth 200000 in
theorem gL_areLines_X6_lineByLevel : GoodIn wsL_areLines (wsV RL 152 RX6 yX6_lineByLevel wsX6_lineByLevel) := goodIn_app (goodIn_of _ (by decide +kernel)) ggL_areLines_X6_lineByLevel
set_option maxRecDepth 200000 in
theorem ggL_areLines_X6_pointsWithin : GoodIn wsL_areLines wsX6_pointsWithin := goodIn_ca (goodIn_r _ [81, 7, 82, 83, 84, 5, 85, 59, 60, 61, 62, 63, 11, 64, 13, 86, 87, 88, 89, 90, 91, 92, 93, 94, 95, 96, 97, 98, 99, 100, 101, 102, 103, 104, 105, 106, 107, 108, 109, 110, 111, 112, 113, 114, 115, 116, 169, 170, 171, 172, 173, 174, 175, 176, 177, 178] rfl (by decide +kernel)) (goodIn_sub (fun _ h => List.mem_cons_of_mem _ (List.mem_append_right _ h)) (by decide +kernel))
set_option maxRecDepth 200000 in
theorem gL_areLines_X6_pointsWithin : GoodIn wsL_areLines (wsV RL 155 RX6 yX6_pointsWithin wsX6_pointsWithin) := goodIn_app (goodIn_of _ (by decide +kernel)) ggL_areLines_X6_pointsWithin
set_option maxRecDepth 200000 in
theorem ggL_areLines_X6_labels : GoodIn wsL_areLines wsX6_labels := goodIn_r _ [120, 7, 121, 122, 123, 11, 124, 13, 125, 126, 127, 128, 129, 169, 170, 171, 172, 173, 174, 175, 176, 177, 178] rfl (by decide +kernel)
set_option maxRecDepth 200000 in
theorem gL_areLines_X6_labels : GoodIn wsL_areLines (wsV RL 158 RX6 yX6_labels wsX6_labels) := goodIn_app (goodIn_of _ (by decide +kernel)) ggL_areLines_X6_labels
set_option maxRecDepth 200000 in
theorem ggL_areLines_X6_tooNear : GoodIn wsL_areLines wsX6_tooNear := goodIn_r _ [133, 7, 134, 135, 136, 137, 138, 9, 10, 11, 12, 13, 139, 140, 141, 142, 126, 127, 128, 129, 143, 144, 145, 146, 147, 148, 149, 150, 151, 152, 153, 154, 155, 156, 77, 157, 105, 106, 107, 94, 95, 158, 5, 159, 160, 161, 162, 163, 164, 165, 166, 113, 114, 167, 111, 112, 168, 19, 20, 21, 22, 169, 170, 171, 172, 173, 174, 175, 176, 177, 178] rfl (by decide +kernel)
set_option maxRecDepth 200000 in
theorem gL_areLines_X6_tooNear : GoodIn wsL_areLines (wsV RL 161 RX6 yX6_tooNear wsX6_tooNear) := goodIn_app (goodIn_of _ (by decide +kernel)) ggL_areLines_X6_tooNear
theorem dL_areLines_0 : decode cL_areLines 0 = .ok (.bipush 61, 2) := by decide +kernel
theorem dL_areLines_2 : decode cL_areLines 2 = .ok (.newarray .int, 2) := by decide +kernel
theorem dL_areLines_4 : decode cL_areLines 4 = .ok (.astore 4, 2) := by decide +kernel
theorem dL_areLines_6 : decode cL_areLines 6 = .ok (.iconst 0, 1) := by decide +kernel
theorem dL_areLines_7 : decode cL_areLines 7 = .ok (.istore 5, 2) := by decide +kernel
theorem dL_areLines_9 : decode cL_areLines 9 = .ok (.iconst 0, 1) := by decide +kernel
theorem dL_areLines_10 : decode cL_areLines 10 = .ok (.istore 6, 2) := by decide +kernel
theorem dL_areLines_12 : decode cL_areLines 12 = .ok (.aload_n 0, 1) := by decide +kernel
theorem dL_areLines_13 : decode cL_areLines 13 = .ok (.invokevirtual 146, 3) := by decide +kernel
theorem dL_areLines_16 : decode cL_areLines 16 = .ok (.aload_n 1, 1) := by decide +kernel
theorem dL_areLines_17 : decode cL_areLines 17 = .ok (.bipush 32, 2) := by decide +kernel
theorem dL_areLines_19 : decode cL_areLines 19 = .ok (.iaload, 1) := by decide +kernel
theorem dL_areLines_20 : decode cL_areLines 20 = .ok (.if_icmp .ne 18, 3) := by decide +kernel
theorem dL_areLines_23 : decode cL_areLines 23 = .ok (.aload_n 0, 1) := by decide +kernel
theorem dL_areLines_24 : decode cL_areLines 24 = .ok (.invokevirtual 150, 3) := by decide +kernel
theorem dL_areLines_27 : decode cL_areLines 27 = .ok (.aload_n 1, 1) := by decide +kernel
theorem dL_areLines_28 : decode cL_areLines 28 = .ok (.bipush 33, 2) := by decide +kernel
theorem dL_areLines_30 : decode cL_areLines 30 = .ok (.iaload, 1) := by decide +kernel
theorem dL_areLines_31 : decode cL_areLines 31 = .ok (.if_icmp .ne 7, 3) := by decide +kernel
theorem dL_areLines_34 : decode cL_areLines 34 = .ok (.iconst 1, 1) := by decide +kernel
theorem dL_areLines_35 : decode cL_areLines 35 = .ok (.goto 4, 3) := by decide +kernel
theorem dL_areLines_38 : decode cL_areLines 38 = .ok (.iconst 0, 1) := by decide +kernel
theorem dL_areLines_39 : decode cL_areLines 39 = .ok (.istore 7, 2) := by decide +kernel
theorem dL_areLines_41 : decode cL_areLines 41 = .ok (.iconst 0, 1) := by decide +kernel
theorem dL_areLines_42 : decode cL_areLines 42 = .ok (.istore 8, 2) := by decide +kernel
theorem dL_areLines_44 : decode cL_areLines 44 = .ok (.iload 8, 2) := by decide +kernel
theorem dL_areLines_46 : decode cL_areLines 46 = .ok (.aload_n 1, 1) := by decide +kernel
theorem dL_areLines_47 : decode cL_areLines 47 = .ok (.bipush 32, 2) := by decide +kernel
theorem dL_areLines_49 : decode cL_areLines 49 = .ok (.iaload, 1) := by decide +kernel
theorem dL_areLines_50 : decode cL_areLines 50 = .ok (.if_icmp .ge 283, 3) := by decide +kernel
theorem dL_areLines_53 : decode cL_areLines 53 = .ok (.iload 7, 2) := by decide +kernel
theorem dL_areLines_55 : decode cL_areLines 55 = .ok (.ifCond .eq 278, 3) := by decide +kernel
theorem dL_areLines_58 : decode cL_areLines 58 = .ok (.iconst 0, 1) := by decide +kernel
theorem dL_areLines_59 : decode cL_areLines 59 = .ok (.istore 9, 2) := by decide +kernel
theorem dL_areLines_61 : decode cL_areLines 61 = .ok (.iconst 0, 1) := by decide +kernel
theorem dL_areLines_62 : decode cL_areLines 62 = .ok (.istore 10, 2) := by decide +kernel
theorem dL_areLines_64 : decode cL_areLines 64 = .ok (.aload_n 1, 1) := by decide +kernel
theorem dL_areLines_65 : decode cL_areLines 65 = .ok (.aload_n 2, 1) := by decide +kernel
theorem dL_areLines_66 : decode cL_areLines 66 = .ok (.iload 8, 2) := by decide +kernel
theorem dL_areLines_68 : decode cL_areLines 68 = .ok (.aload 4, 2) := by decide +kernel
theorem dL_areLines_70 : decode cL_areLines 70 = .ok (.invokestatic 22, 3) := by decide +kernel
theorem dL_areLines_73 : decode cL_areLines 73 = .ok (.iload 5, 2) := by decide +kernel
theorem dL_areLines_75 : decode cL_areLines 75 = .ok (.aload_n 1, 1) := by decide +kernel
theorem dL_areLines_76 : decode cL_areLines 76 = .ok (.iconst 4, 1) := by decide +kernel
theorem dL_areLines_77 : decode cL_areLines 77 = .ok (.iload 8, 2) := by decide +kernel
theorem dL_areLines_79 : decode cL_areLines 79 = .ok (.imul, 1) := by decide +kernel
theorem dL_areLines_80 : decode cL_areLines 80 = .ok (.iconst 3, 1) := by decide +kernel
theorem dL_areLines_81 : decode cL_areLines 81 = .ok (.iadd, 1) := by decide +kernel
theorem dL_areLines_82 : decode cL_areLines 82 = .ok (.iaload, 1) := by decide +kernel
theorem dL_areLines_83 : decode cL_areLines 83 = .ok (.ifCond .ge 7, 3) := by decide +kernel
theorem dL_areLines_86 : decode cL_areLines 86 = .ok (.iconst 0, 1) := by decide +kernel
theorem dL_areLines_87 : decode cL_areLines 87 = .ok (.goto 4, 3) := by decide +kernel
theorem dL_areLines_90 : decode cL_areLines 90 = .ok (.iconst 1, 1) := by decide +kernel
theorem dL_areLines_91 : decode cL_areLines 91 = .ok (.iadd, 1) := by decide +kernel
theorem dL_areLines_92 : decode cL_areLines 92 = .ok (.istore 5, 2) := by decide +kernel
theorem dL_areLines_94 : decode cL_areLines 94 = .ok (.iconst 0, 1) := by decide +kernel
theorem dL_areLines_95 : decode cL_areLines 95 = .ok (.istore 11, 2) := by decide +kernel
theorem dL_areLines_97 : decode cL_areLines 97 = .ok (.iload 11, 2) := by decide +kernel
theorem dL_areLines_99 : decode cL_areLines 99 = .ok (.aload_n 1, 1) := by decide +kernel
theorem dL_areLines_100 : decode cL_areLines 100 = .ok (.bipush 32, 2) := by decide +kernel
theorem dL_areLines_102 : decode cL_areLines 102 = .ok (.iaload, 1) := by decide +kernel
theorem dL_areLines_103 : decode cL_areLines 103 = .ok (.if_icmp .ge 133, 3) := by decide +kernel
theorem dL_areLines_106 : decode cL_areLines 106 = .ok (.iload 11, 2) := by decide +kernel
theorem dL_areLines_108 : decode cL_areLines 108 = .ok (.iload 8, 2) := by decide +kernel
theorem dL_areLines_110 : decode cL_areLines 110 = .ok (.if_icmp .ge 29, 3) := by decide +kernel
theorem dL_areLines_113 : decode cL_areLines 113 = .ok (.aload_n 1, 1) := by decide +kernel
theorem dL_areLines_114 : decode cL_areLines 114 = .ok (.iconst 4, 1) := by decide +kernel
theorem dL_areLines_115 : decode cL_areLines 115 = .ok (.iload 8, 2) := by decide +kernel
theorem dL_areLines_117 : decode cL_areLines 117 = .ok (.imul, 1) := by decide +kernel
theorem dL_areLines_118 : decode cL_areLines 118 = .ok (.iconst 3, 1) := by decide +kernel
theorem dL_areLines_119 : decode cL_areLines 119 = .ok (.iadd, 1) := by decide +kernel
theorem dL_areLines_120 : decode cL_areLines 120 = .ok (.iaload, 1) := by decide +kernel
theorem dL_areLines_121 : decode cL_areLines 121 = .ok (.ifCond .lt 18, 3) := by decide +kernel
theorem dL_areLines_124 : decode cL_areLines 124 = .ok (.aload_n 1, 1) := by decide +kernel
theorem dL_areLines_125 : decode cL_areLines 125 = .ok (.iconst 4, 1) := by decide +kernel
theorem dL_areLines_126 : decode cL_areLines 126 = .ok (.iload 11, 2) := by decide +kernel
theorem dL_areLines_128 : decode cL_areLines 128 = .ok (.imul, 1) := by decide +kernel
theorem dL_areLines_129 : decode cL_areLines 129 = .ok (.iconst 3, 1) := by decide +kernel
theorem dL_areLines_130 : decode cL_areLines 130 = .ok (.iadd, 1) := by decide +kernel
theorem dL_areLines_131 : decode cL_areLines 131 = .ok (.iaload, 1) := by decide +kernel
theorem dL_areLines_132 : decode cL_areLines 132 = .ok (.ifCond .lt 7, 3) := by decide +kernel
theorem dL_areLines_135 : decode cL_areLines 135 = .ok (.iconst 1, 1) := by decide +kernel
theorem dL_areLines_136 : decode cL_areLines 136 = .ok (.goto 4, 3) := by decide +kernel
theorem dL_areLines_139 : decode cL_areLines 139 = .ok (.iconst 0, 1) := by decide +kernel
theorem dL_areLines_140 : decode cL_areLines 140 = .ok (.istore 12, 2) := by decide +kernel
theorem dL_areLines_142 : decode cL_areLines 142 = .ok (.iload 6, 2) := by decide +kernel
theorem dL_areLines_144 : decode cL_areLines 144 = .ok (.iload 12, 2) := by decide +kernel
theorem dL_areLines_146 : decode cL_areLines 146 = .ok (.ifCond .eq 33, 3) := by decide +kernel
theorem dL_areLines_149 : decode cL_areLines 149 = .ok (.aload_n 1, 1) := by decide +kernel
theorem dL_areLines_150 : decode cL_areLines 150 = .ok (.aload_n 2, 1) := by decide +kernel
theorem dL_areLines_151 : decode cL_areLines 151 = .ok (.iload 8, 2) := by decide +kernel
theorem dL_areLines_153 : decode cL_areLines 153 = .ok (.aload 4, 2) := by decide +kernel
theorem dL_areLines_155 : decode cL_areLines 155 = .ok (.aload_n 1, 1) := by decide +kernel
theorem dL_areLines_156 : decode cL_areLines 156 = .ok (.iconst 4, 1) := by decide +kernel
theorem dL_areLines_157 : decode cL_areLines 157 = .ok (.iload 8, 2) := by decide +kernel
theorem dL_areLines_159 : decode cL_areLines 159 = .ok (.imul, 1) := by decide +kernel
theorem dL_areLines_160 : decode cL_areLines 160 = .ok (.iconst 3, 1) := by decide +kernel
theorem dL_areLines_161 : decode cL_areLines 161 = .ok (.iadd, 1) := by decide +kernel
theorem dL_areLines_162 : decode cL_areLines 162 = .ok (.iaload, 1) := by decide +kernel
theorem dL_areLines_163 : decode cL_areLines 163 = .ok (.iload 11, 2) := by decide +kernel
theorem dL_areLines_165 : decode cL_areLines 165 = .ok (.invokestatic 46, 3) := by decide +kernel
theorem dL_areLines_168 : decode cL_areLines 168 = .ok (.aload_n 1, 1) := by decide +kernel
theorem dL_areLines_169 : decode cL_areLines 169 = .ok (.bipush 33, 2) := by decide +kernel
theorem dL_areLines_171 : decode cL_areLines 171 = .ok (.iaload, 1) := by decide +kernel
theorem dL_areLines_172 : decode cL_areLines 172 = .ok (.if_icmp .ge 7, 3) := by decide +kernel
theorem dL_areLines_175 : decode cL_areLines 175 = .ok (.iconst 1, 1) := by decide +kernel
theorem dL_areLines_176 : decode cL_areLines 176 = .ok (.goto 4, 3) := by decide +kernel
theorem dL_areLines_179 : decode cL_areLines 179 = .ok (.iconst 0, 1) := by decide +kernel
theorem dL_areLines_180 : decode cL_areLines 180 = .ok (.iadd, 1) := by decide +kernel
theorem dL_areLines_181 : decode cL_areLines 181 = .ok (.istore 6, 2) := by decide +kernel
theorem dL_areLines_183 : decode cL_areLines 183 = .ok (.iload 9, 2) := by decide +kernel
theorem dL_areLines_185 : decode cL_areLines 185 = .ok (.aload_n 1, 1) := by decide +kernel
theorem dL_areLines_186 : decode cL_areLines 186 = .ok (.iconst 4, 1) := by decide +kernel
theorem dL_areLines_187 : decode cL_areLines 187 = .ok (.iload 11, 2) := by decide +kernel
theorem dL_areLines_189 : decode cL_areLines 189 = .ok (.imul, 1) := by decide +kernel
theorem dL_areLines_190 : decode cL_areLines 190 = .ok (.iaload, 1) := by decide +kernel
theorem dL_areLines_191 : decode cL_areLines 191 = .ok (.aload_n 1, 1) := by decide +kernel
theorem dL_areLines_192 : decode cL_areLines 192 = .ok (.iconst 4, 1) := by decide +kernel
theorem dL_areLines_193 : decode cL_areLines 193 = .ok (.iload 8, 2) := by decide +kernel
theorem dL_areLines_195 : decode cL_areLines 195 = .ok (.imul, 1) := by decide +kernel
theorem dL_areLines_196 : decode cL_areLines 196 = .ok (.iaload, 1) := by decide +kernel
theorem dL_areLines_197 : decode cL_areLines 197 = .ok (.if_icmp .lt 25, 3) := by decide +kernel
theorem dL_areLines_200 : decode cL_areLines 200 = .ok (.aload_n 1, 1) := by decide +kernel
theorem dL_areLines_201 : decode cL_areLines 201 = .ok (.iconst 4, 1) := by decide +kernel
theorem dL_areLines_202 : decode cL_areLines 202 = .ok (.iload 11, 2) := by decide +kernel
theorem dL_areLines_204 : decode cL_areLines 204 = .ok (.imul, 1) := by decide +kernel
theorem dL_areLines_205 : decode cL_areLines 205 = .ok (.iaload, 1) := by decide +kernel
theorem dL_areLines_206 : decode cL_areLines 206 = .ok (.aload_n 1, 1) := by decide +kernel
theorem dL_areLines_207 : decode cL_areLines 207 = .ok (.iconst 4, 1) := by decide +kernel
theorem dL_areLines_208 : decode cL_areLines 208 = .ok (.iload 8, 2) := by decide +kernel
theorem dL_areLines_210 : decode cL_areLines 210 = .ok (.imul, 1) := by decide +kernel
theorem dL_areLines_211 : decode cL_areLines 211 = .ok (.iaload, 1) := by decide +kernel
theorem dL_areLines_212 : decode cL_areLines 212 = .ok (.if_icmp .ne 14, 3) := by decide +kernel
theorem dL_areLines_215 : decode cL_areLines 215 = .ok (.iload 11, 2) := by decide +kernel
theorem dL_areLines_217 : decode cL_areLines 217 = .ok (.iload 8, 2) := by decide +kernel
theorem dL_areLines_219 : decode cL_areLines 219 = .ok (.if_icmp .ge 7, 3) := by decide +kernel
theorem dL_areLines_222 : decode cL_areLines 222 = .ok (.iconst 1, 1) := by decide +kernel
theorem dL_areLines_223 : decode cL_areLines 223 = .ok (.goto 4, 3) := by decide +kernel
theorem dL_areLines_226 : decode cL_areLines 226 = .ok (.iconst 0, 1) := by decide +kernel
theorem dL_areLines_227 : decode cL_areLines 227 = .ok (.iadd, 1) := by decide +kernel
theorem dL_areLines_228 : decode cL_areLines 228 = .ok (.istore 9, 2) := by decide +kernel
theorem dL_areLines_230 : decode cL_areLines 230 = .ok (.iinc 11 1, 3) := by decide +kernel
theorem dL_areLines_233 : decode cL_areLines 233 = .ok (.goto (-136), 3) := by decide +kernel
theorem dL_areLines_236 : decode cL_areLines 236 = .ok (.iconst 0, 1) := by decide +kernel
theorem dL_areLines_237 : decode cL_areLines 237 = .ok (.istore 11, 2) := by decide +kernel
theorem dL_areLines_239 : decode cL_areLines 239 = .ok (.iload 11, 2) := by decide +kernel
theorem dL_areLines_241 : decode cL_areLines 241 = .ok (.sipush 384, 3) := by decide +kernel
theorem dL_areLines_244 : decode cL_areLines 244 = .ok (.if_icmp .ge 43, 3) := by decide +kernel
