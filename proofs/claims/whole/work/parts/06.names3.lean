theorem dX7_whyNoLabel_52 : decode cX7_whyNoLabel 52 = .ok (.bipush 24, 2) := by decide +kernel
theorem dX7_whyNoLabel_54 : decode cX7_whyNoLabel 54 = .ok (.idiv, 1) := by decide +kernel
theorem dX7_whyNoLabel_55 : decode cX7_whyNoLabel 55 = .ok (.invokestatic 61, 3) := by decide +kernel
theorem dX7_whyNoLabel_58 : decode cX7_whyNoLabel 58 = .ok (.iload_n 3, 1) := by decide +kernel
theorem dX7_whyNoLabel_59 : decode cX7_whyNoLabel 59 = .ok (.bipush 24, 2) := by decide +kernel
theorem dX7_whyNoLabel_61 : decode cX7_whyNoLabel 61 = .ok (.irem, 1) := by decide +kernel
theorem dX7_whyNoLabel_62 : decode cX7_whyNoLabel 62 = .ok (.iload 4, 2) := by decide +kernel
theorem dX7_whyNoLabel_64 : decode cX7_whyNoLabel 64 = .ok (.bipush 24, 2) := by decide +kernel
theorem dX7_whyNoLabel_66 : decode cX7_whyNoLabel 66 = .ok (.irem, 1) := by decide +kernel
theorem dX7_whyNoLabel_67 : decode cX7_whyNoLabel 67 = .ok (.invokestatic 61, 3) := by decide +kernel
theorem dX7_whyNoLabel_70 : decode cX7_whyNoLabel 70 = .ok (.if_icmp .le 5, 3) := by decide +kernel
theorem dX7_whyNoLabel_73 : decode cX7_whyNoLabel 73 = .ok (.iconst 3, 1) := by decide +kernel
theorem dX7_whyNoLabel_74 : decode cX7_whyNoLabel 74 = .ok (.ireturn, 1) := by decide +kernel
theorem dX7_whyNoLabel_75 : decode cX7_whyNoLabel 75 = .ok (.aload_n 0, 1) := by decide +kernel
theorem dX7_whyNoLabel_76 : decode cX7_whyNoLabel 76 = .ok (.iload_n 1, 1) := by decide +kernel
theorem dX7_whyNoLabel_77 : decode cX7_whyNoLabel 77 = .ok (.iload_n 2, 1) := by decide +kernel
theorem dX7_whyNoLabel_78 : decode cX7_whyNoLabel 78 = .ok (.invokevirtual 86, 3) := by decide +kernel
theorem dX7_whyNoLabel_81 : decode cX7_whyNoLabel 81 = .ok (.aload_n 0, 1) := by decide +kernel
theorem dX7_whyNoLabel_82 : decode cX7_whyNoLabel 82 = .ok (.getfield 7, 3) := by decide +kernel
theorem dX7_whyNoLabel_85 : decode cX7_whyNoLabel 85 = .ok (.iconst 1, 1) := by decide +kernel
theorem dX7_whyNoLabel_86 : decode cX7_whyNoLabel 86 = .ok (.iaload, 1) := by decide +kernel
theorem dX7_whyNoLabel_87 : decode cX7_whyNoLabel 87 = .ok (.if_icmp .ge 7, 3) := by decide +kernel
theorem dX7_whyNoLabel_90 : decode cX7_whyNoLabel 90 = .ok (.iconst 4, 1) := by decide +kernel
theorem dX7_whyNoLabel_91 : decode cX7_whyNoLabel 91 = .ok (.goto 4, 3) := by decide +kernel
theorem dX7_whyNoLabel_94 : decode cX7_whyNoLabel 94 = .ok (.iconst 0, 1) := by decide +kernel
theorem dX7_whyNoLabel_95 : decode cX7_whyNoLabel 95 = .ok (.ireturn, 1) := by decide +kernel
set_option maxRecDepth 20000 in
theorem ggX7_best_X7_of : GoodIn wsX7_best wsX7_of := goodIn_r _ [5, 6, 66, 67, 68, 69, 70, 71, 72, 73, 74, 75, 76, 77, 78] (by decide +kernel) (by decide +kernel)
set_option maxRecDepth 20000 in
theorem gX7_best_X7_of : GoodIn wsX7_best (wsV RX7 37 RX7 yX7_of wsX7_of) := goodIn_app (goodIn_of _ (by decide +kernel)) ggX7_best_X7_of
set_option maxRecDepth 20000 in
theorem ggX7_best_X7_whyNoLabel : GoodIn wsX7_best wsX7_whyNoLabel := goodIn_r _ [10, 6, 11, 12, 13, 4, 14, 15, 16, 17, 18, 1, 2, 3, 5, 19, 20, 21, 22, 23, 24, 25, 26, 27, 28, 29, 30, 31, 32, 33, 34, 35, 36, 37, 38, 39, 40, 41, 42, 43, 44, 45, 46, 47, 48, 49, 50, 51, 52, 53, 54, 55, 56, 57, 58, 59, 60, 61, 62, 63, 64, 65, 66, 67, 68, 69, 70, 71, 72, 73, 74, 75, 76, 77, 78] (by decide +kernel) (by decide +kernel)
set_option maxRecDepth 20000 in
theorem gX7_best_X7_whyNoLabel : GoodIn wsX7_best (wsV RX7 89 RX7 yX7_whyNoLabel wsX7_whyNoLabel) := goodIn_app (goodIn_of _ (by decide +kernel)) ggX7_best_X7_whyNoLabel
set_option maxRecDepth 20000 in
theorem ggX7_best_X7_bends : GoodIn wsX7_best wsX7_bends := goodIn_r _ [43, 15, 16, 17, 4, 18, 1, 2, 3, 5, 6, 34, 35, 36, 44, 45, 46, 47, 48, 49, 50, 51, 52, 53, 19, 20, 21, 22, 23, 24, 25, 26, 27, 28, 29, 30, 31, 32, 33, 37, 38, 39, 66, 67, 68, 69, 70, 71, 72, 73, 74, 75, 76, 77, 78] (by decide +kernel) (by decide +kernel)
set_option maxRecDepth 20000 in
theorem gX7_best_X7_bends : GoodIn wsX7_best (wsV RX7 83 RX7 yX7_bends wsX7_bends) := goodIn_app (goodIn_of _ (by decide +kernel)) ggX7_best_X7_bends
set_option maxRecDepth 20000 in
theorem ggX7_best_X7_free : GoodIn wsX7_best wsX7_free := goodIn_r _ [57, 6, 1, 2, 3, 4, 5, 58, 59, 60, 61, 15, 16, 17, 18, 27, 28, 29, 30, 31, 32, 33, 34, 35, 36, 37, 38, 39, 62, 63, 64, 65, 51, 52, 53, 66, 67, 68, 69, 70, 71, 72, 73, 74, 75, 76, 77, 78] (by decide +kernel) (by decide +kernel)
set_option maxRecDepth 20000 in
theorem gX7_best_X7_free : GoodIn wsX7_best (wsV RX7 86 RX7 yX7_free wsX7_free) := goodIn_app (goodIn_of _ (by decide +kernel)) ggX7_best_X7_free
theorem dX7_best_0 : decode cX7_best 0 = .ok (.iconst (-1), 1) := by decide +kernel
theorem dX7_best_1 : decode cX7_best 1 = .ok (.istore_n 2, 1) := by decide +kernel
theorem dX7_best_2 : decode cX7_best 2 = .ok (.iconst 0, 1) := by decide +kernel
theorem dX7_best_3 : decode cX7_best 3 = .ok (.istore_n 3, 1) := by decide +kernel
theorem dX7_best_4 : decode cX7_best 4 = .ok (.iconst 0, 1) := by decide +kernel
theorem dX7_best_5 : decode cX7_best 5 = .ok (.istore 4, 2) := by decide +kernel
theorem dX7_best_7 : decode cX7_best 7 = .ok (.iconst 0, 1) := by decide +kernel
theorem dX7_best_8 : decode cX7_best 8 = .ok (.istore 5, 2) := by decide +kernel
theorem dX7_best_10 : decode cX7_best 10 = .ok (.iload 5, 2) := by decide +kernel
theorem dX7_best_12 : decode cX7_best 12 = .ok (.aload_n 0, 1) := by decide +kernel
theorem dX7_best_13 : decode cX7_best 13 = .ok (.iload_n 1, 1) := by decide +kernel
theorem dX7_best_14 : decode cX7_best 14 = .ok (.iconst 2, 1) := by decide +kernel
theorem dX7_best_15 : decode cX7_best 15 = .ok (.invokevirtual 37, 3) := by decide +kernel
theorem dX7_best_18 : decode cX7_best 18 = .ok (.if_icmp .gt 106, 3) := by decide +kernel
theorem dX7_best_21 : decode cX7_best 21 = .ok (.aload_n 0, 1) := by decide +kernel
theorem dX7_best_22 : decode cX7_best 22 = .ok (.iload_n 1, 1) := by decide +kernel
theorem dX7_best_23 : decode cX7_best 23 = .ok (.iload 5, 2) := by decide +kernel
theorem dX7_best_25 : decode cX7_best 25 = .ok (.invokevirtual 89, 3) := by decide +kernel
theorem dX7_best_28 : decode cX7_best 28 = .ok (.ifCond .ne 90, 3) := by decide +kernel
theorem dX7_best_31 : decode cX7_best 31 = .ok (.aload_n 0, 1) := by decide +kernel
theorem dX7_best_32 : decode cX7_best 32 = .ok (.iload_n 1, 1) := by decide +kernel
theorem dX7_best_33 : decode cX7_best 33 = .ok (.iload 5, 2) := by decide +kernel
theorem dX7_best_35 : decode cX7_best 35 = .ok (.invokevirtual 83, 3) := by decide +kernel
theorem dX7_best_38 : decode cX7_best 38 = .ok (.istore 6, 2) := by decide +kernel
theorem dX7_best_40 : decode cX7_best 40 = .ok (.aload_n 0, 1) := by decide +kernel
theorem dX7_best_41 : decode cX7_best 41 = .ok (.iload_n 1, 1) := by decide +kernel
theorem dX7_best_42 : decode cX7_best 42 = .ok (.iload 5, 2) := by decide +kernel
theorem dX7_best_44 : decode cX7_best 44 = .ok (.invokevirtual 86, 3) := by decide +kernel
theorem dX7_best_47 : decode cX7_best 47 = .ok (.istore 7, 2) := by decide +kernel
theorem dX7_best_49 : decode cX7_best 49 = .ok (.iload_n 2, 1) := by decide +kernel
theorem dX7_best_50 : decode cX7_best 50 = .ok (.iconst (-1), 1) := by decide +kernel
theorem dX7_best_51 : decode cX7_best 51 = .ok (.if_icmp .eq 22, 3) := by decide +kernel
theorem dX7_best_54 : decode cX7_best 54 = .ok (.iload 6, 2) := by decide +kernel
theorem dX7_best_56 : decode cX7_best 56 = .ok (.iload_n 3, 1) := by decide +kernel
theorem dX7_best_57 : decode cX7_best 57 = .ok (.if_icmp .lt 16, 3) := by decide +kernel
theorem dX7_best_60 : decode cX7_best 60 = .ok (.iload 6, 2) := by decide +kernel
theorem dX7_best_62 : decode cX7_best 62 = .ok (.iload_n 3, 1) := by decide +kernel
theorem dX7_best_63 : decode cX7_best 63 = .ok (.if_icmp .ne 14, 3) := by decide +kernel
theorem dX7_best_66 : decode cX7_best 66 = .ok (.iload 7, 2) := by decide +kernel
theorem dX7_best_68 : decode cX7_best 68 = .ok (.iload 4, 2) := by decide +kernel
theorem dX7_best_70 : decode cX7_best 70 = .ok (.if_icmp .le 7, 3) := by decide +kernel
theorem dX7_best_73 : decode cX7_best 73 = .ok (.iconst 1, 1) := by decide +kernel
theorem dX7_best_74 : decode cX7_best 74 = .ok (.goto 4, 3) := by decide +kernel
theorem dX7_best_77 : decode cX7_best 77 = .ok (.iconst 0, 1) := by decide +kernel
theorem dX7_best_78 : decode cX7_best 78 = .ok (.istore 8, 2) := by decide +kernel
theorem dX7_best_80 : decode cX7_best 80 = .ok (.iload 8, 2) := by decide +kernel
theorem dX7_best_82 : decode cX7_best 82 = .ok (.ifCond .eq 8, 3) := by decide +kernel
theorem dX7_best_85 : decode cX7_best 85 = .ok (.iload 5, 2) := by decide +kernel
theorem dX7_best_87 : decode cX7_best 87 = .ok (.goto 4, 3) := by decide +kernel
theorem dX7_best_90 : decode cX7_best 90 = .ok (.iload_n 2, 1) := by decide +kernel
theorem dX7_best_91 : decode cX7_best 91 = .ok (.istore_n 2, 1) := by decide +kernel
theorem dX7_best_92 : decode cX7_best 92 = .ok (.iload 8, 2) := by decide +kernel
theorem dX7_best_94 : decode cX7_best 94 = .ok (.ifCond .eq 8, 3) := by decide +kernel
theorem dX7_best_97 : decode cX7_best 97 = .ok (.iload 6, 2) := by decide +kernel
theorem dX7_best_99 : decode cX7_best 99 = .ok (.goto 4, 3) := by decide +kernel
theorem dX7_best_102 : decode cX7_best 102 = .ok (.iload_n 3, 1) := by decide +kernel
theorem dX7_best_103 : decode cX7_best 103 = .ok (.istore_n 3, 1) := by decide +kernel
theorem dX7_best_104 : decode cX7_best 104 = .ok (.iload 8, 2) := by decide +kernel
theorem dX7_best_106 : decode cX7_best 106 = .ok (.ifCond .eq 8, 3) := by decide +kernel
theorem dX7_best_109 : decode cX7_best 109 = .ok (.iload 7, 2) := by decide +kernel
theorem dX7_best_111 : decode cX7_best 111 = .ok (.goto 5, 3) := by decide +kernel
theorem dX7_best_114 : decode cX7_best 114 = .ok (.iload 4, 2) := by decide +kernel
theorem dX7_best_116 : decode cX7_best 116 = .ok (.istore 4, 2) := by decide +kernel
theorem dX7_best_118 : decode cX7_best 118 = .ok (.iinc 5 1, 3) := by decide +kernel
theorem dX7_best_121 : decode cX7_best 121 = .ok (.goto (-111), 3) := by decide +kernel
theorem dX7_best_124 : decode cX7_best 124 = .ok (.iload_n 2, 1) := by decide +kernel
theorem dX7_best_125 : decode cX7_best 125 = .ok (.ireturn, 1) := by decide +kernel
set_option maxRecDepth 20000 in
theorem ggX7_labelled_X7_of : GoodIn wsX7_labelled wsX7_of := goodIn_r _ [6, 1, 7, 8, 9, 10, 11, 12, 13, 14, 15, 16, 17, 18, 19] (by decide +kernel) (by decide +kernel)
set_option maxRecDepth 20000 in
theorem gX7_labelled_X7_of : GoodIn wsX7_labelled (wsV RX7 37 RX7 yX7_of wsX7_of) := goodIn_app (goodIn_of _ (by decide +kernel)) ggX7_labelled_X7_of
theorem dX7_labelled_0 : decode cX7_labelled 0 = .ok (.iconst 0, 1) := by decide +kernel
theorem dX7_labelled_1 : decode cX7_labelled 1 = .ok (.istore_n 1, 1) := by decide +kernel
theorem dX7_labelled_2 : decode cX7_labelled 2 = .ok (.iconst 0, 1) := by decide +kernel
theorem dX7_labelled_3 : decode cX7_labelled 3 = .ok (.istore_n 2, 1) := by decide +kernel
theorem dX7_labelled_4 : decode cX7_labelled 4 = .ok (.iload_n 2, 1) := by decide +kernel
theorem dX7_labelled_5 : decode cX7_labelled 5 = .ok (.aload_n 0, 1) := by decide +kernel
theorem dX7_labelled_6 : decode cX7_labelled 6 = .ok (.getfield 7, 3) := by decide +kernel
theorem dX7_labelled_9 : decode cX7_labelled 9 = .ok (.iconst 0, 1) := by decide +kernel
theorem dX7_labelled_10 : decode cX7_labelled 10 = .ok (.iaload, 1) := by decide +kernel
theorem dX7_labelled_11 : decode cX7_labelled 11 = .ok (.if_icmp .ge 27, 3) := by decide +kernel
theorem dX7_labelled_14 : decode cX7_labelled 14 = .ok (.iload_n 1, 1) := by decide +kernel
theorem dX7_labelled_15 : decode cX7_labelled 15 = .ok (.aload_n 0, 1) := by decide +kernel
theorem dX7_labelled_16 : decode cX7_labelled 16 = .ok (.iload_n 2, 1) := by decide +kernel
theorem dX7_labelled_17 : decode cX7_labelled 17 = .ok (.iconst 3, 1) := by decide +kernel
theorem dX7_labelled_18 : decode cX7_labelled 18 = .ok (.invokevirtual 37, 3) := by decide +kernel
theorem dX7_labelled_21 : decode cX7_labelled 21 = .ok (.iconst (-1), 1) := by decide +kernel
theorem dX7_labelled_22 : decode cX7_labelled 22 = .ok (.if_icmp .eq 7, 3) := by decide +kernel
theorem dX7_labelled_25 : decode cX7_labelled 25 = .ok (.iconst 1, 1) := by decide +kernel
theorem dX7_labelled_26 : decode cX7_labelled 26 = .ok (.goto 4, 3) := by decide +kernel
theorem dX7_labelled_29 : decode cX7_labelled 29 = .ok (.iconst 0, 1) := by decide +kernel
theorem dX7_labelled_30 : decode cX7_labelled 30 = .ok (.iadd, 1) := by decide +kernel
theorem dX7_labelled_31 : decode cX7_labelled 31 = .ok (.istore_n 1, 1) := by decide +kernel
theorem dX7_labelled_32 : decode cX7_labelled 32 = .ok (.iinc 2 1, 3) := by decide +kernel
theorem dX7_labelled_35 : decode cX7_labelled 35 = .ok (.goto (-31), 3) := by decide +kernel
theorem dX7_labelled_38 : decode cX7_labelled 38 = .ok (.iload_n 1, 1) := by decide +kernel
theorem dX7_labelled_39 : decode cX7_labelled 39 = .ok (.ireturn, 1) := by decide +kernel
set_option maxRecDepth 20000 in
theorem ggX7_byLevel_X7_of : GoodIn wsX7_byLevel wsX7_of := goodIn_r _ [6, 1, 7, 8, 9, 10, 11, 12, 13, 14, 15, 16, 17, 18, 19] (by decide +kernel) (by decide +kernel)
set_option maxRecDepth 20000 in
theorem gX7_byLevel_X7_of : GoodIn wsX7_byLevel (wsV RX7 37 RX7 yX7_of wsX7_of) := goodIn_app (goodIn_of _ (by decide +kernel)) ggX7_byLevel_X7_of
theorem dX7_byLevel_0 : decode cX7_byLevel 0 = .ok (.iconst (-1), 1) := by decide +kernel
theorem dX7_byLevel_1 : decode cX7_byLevel 1 = .ok (.istore_n 2, 1) := by decide +kernel
theorem dX7_byLevel_2 : decode cX7_byLevel 2 = .ok (.iconst 0, 1) := by decide +kernel
theorem dX7_byLevel_3 : decode cX7_byLevel 3 = .ok (.istore_n 3, 1) := by decide +kernel
theorem dX7_byLevel_4 : decode cX7_byLevel 4 = .ok (.iload_n 3, 1) := by decide +kernel
theorem dX7_byLevel_5 : decode cX7_byLevel 5 = .ok (.aload_n 0, 1) := by decide +kernel
theorem dX7_byLevel_6 : decode cX7_byLevel 6 = .ok (.getfield 7, 3) := by decide +kernel
theorem dX7_byLevel_9 : decode cX7_byLevel 9 = .ok (.iconst 0, 1) := by decide +kernel
theorem dX7_byLevel_10 : decode cX7_byLevel 10 = .ok (.iaload, 1) := by decide +kernel
theorem dX7_byLevel_11 : decode cX7_byLevel 11 = .ok (.if_icmp .ge 104, 3) := by decide +kernel
theorem dX7_byLevel_14 : decode cX7_byLevel 14 = .ok (.iconst 0, 1) := by decide +kernel
theorem dX7_byLevel_15 : decode cX7_byLevel 15 = .ok (.istore 4, 2) := by decide +kernel
theorem dX7_byLevel_17 : decode cX7_byLevel 17 = .ok (.iconst 0, 1) := by decide +kernel
theorem dX7_byLevel_18 : decode cX7_byLevel 18 = .ok (.istore 5, 2) := by decide +kernel
theorem dX7_byLevel_20 : decode cX7_byLevel 20 = .ok (.iload 5, 2) := by decide +kernel
theorem dX7_byLevel_22 : decode cX7_byLevel 22 = .ok (.aload_n 0, 1) := by decide +kernel
theorem dX7_byLevel_23 : decode cX7_byLevel 23 = .ok (.getfield 7, 3) := by decide +kernel
theorem dX7_byLevel_26 : decode cX7_byLevel 26 = .ok (.iconst 0, 1) := by decide +kernel
theorem dX7_byLevel_27 : decode cX7_byLevel 27 = .ok (.iaload, 1) := by decide +kernel
theorem dX7_byLevel_28 : decode cX7_byLevel 28 = .ok (.if_icmp .ge 69, 3) := by decide +kernel
theorem dX7_byLevel_31 : decode cX7_byLevel 31 = .ok (.aload_n 0, 1) := by decide +kernel
theorem dX7_byLevel_32 : decode cX7_byLevel 32 = .ok (.iload 5, 2) := by decide +kernel
theorem dX7_byLevel_34 : decode cX7_byLevel 34 = .ok (.iconst 0, 1) := by decide +kernel
theorem dX7_byLevel_35 : decode cX7_byLevel 35 = .ok (.invokevirtual 37, 3) := by decide +kernel
theorem dX7_byLevel_38 : decode cX7_byLevel 38 = .ok (.aload_n 0, 1) := by decide +kernel
theorem dX7_byLevel_39 : decode cX7_byLevel 39 = .ok (.iload_n 3, 1) := by decide +kernel
theorem dX7_byLevel_40 : decode cX7_byLevel 40 = .ok (.iconst 0, 1) := by decide +kernel
theorem dX7_byLevel_41 : decode cX7_byLevel 41 = .ok (.invokevirtual 37, 3) := by decide +kernel
theorem dX7_byLevel_44 : decode cX7_byLevel 44 = .ok (.if_icmp .lt 25, 3) := by decide +kernel
theorem dX7_byLevel_47 : decode cX7_byLevel 47 = .ok (.aload_n 0, 1) := by decide +kernel
theorem dX7_byLevel_48 : decode cX7_byLevel 48 = .ok (.iload 5, 2) := by decide +kernel
theorem dX7_byLevel_50 : decode cX7_byLevel 50 = .ok (.iconst 0, 1) := by decide +kernel
theorem dX7_byLevel_51 : decode cX7_byLevel 51 = .ok (.invokevirtual 37, 3) := by decide +kernel
theorem dX7_byLevel_54 : decode cX7_byLevel 54 = .ok (.aload_n 0, 1) := by decide +kernel
theorem dX7_byLevel_55 : decode cX7_byLevel 55 = .ok (.iload_n 3, 1) := by decide +kernel
theorem dX7_byLevel_56 : decode cX7_byLevel 56 = .ok (.iconst 0, 1) := by decide +kernel
theorem dX7_byLevel_57 : decode cX7_byLevel 57 = .ok (.invokevirtual 37, 3) := by decide +kernel
theorem dX7_byLevel_60 : decode cX7_byLevel 60 = .ok (.if_icmp .ne 13, 3) := by decide +kernel
theorem dX7_byLevel_63 : decode cX7_byLevel 63 = .ok (.iload 5, 2) := by decide +kernel
theorem dX7_byLevel_65 : decode cX7_byLevel 65 = .ok (.iload_n 3, 1) := by decide +kernel
theorem dX7_byLevel_66 : decode cX7_byLevel 66 = .ok (.if_icmp .ge 7, 3) := by decide +kernel
theorem dX7_byLevel_69 : decode cX7_byLevel 69 = .ok (.iconst 1, 1) := by decide +kernel
theorem dX7_byLevel_70 : decode cX7_byLevel 70 = .ok (.goto 4, 3) := by decide +kernel
theorem dX7_byLevel_73 : decode cX7_byLevel 73 = .ok (.iconst 0, 1) := by decide +kernel
theorem dX7_byLevel_74 : decode cX7_byLevel 74 = .ok (.istore 6, 2) := by decide +kernel
theorem dX7_byLevel_76 : decode cX7_byLevel 76 = .ok (.iload 4, 2) := by decide +kernel
theorem dX7_byLevel_78 : decode cX7_byLevel 78 = .ok (.iload 6, 2) := by decide +kernel
theorem dX7_byLevel_80 : decode cX7_byLevel 80 = .ok (.ifCond .eq 7, 3) := by decide +kernel
theorem dX7_byLevel_83 : decode cX7_byLevel 83 = .ok (.iconst 1, 1) := by decide +kernel
theorem dX7_byLevel_84 : decode cX7_byLevel 84 = .ok (.goto 4, 3) := by decide +kernel
theorem dX7_byLevel_87 : decode cX7_byLevel 87 = .ok (.iconst 0, 1) := by decide +kernel
theorem dX7_byLevel_88 : decode cX7_byLevel 88 = .ok (.iadd, 1) := by decide +kernel
theorem dX7_byLevel_89 : decode cX7_byLevel 89 = .ok (.istore 4, 2) := by decide +kernel
theorem dX7_byLevel_91 : decode cX7_byLevel 91 = .ok (.iinc 5 1, 3) := by decide +kernel
theorem dX7_byLevel_94 : decode cX7_byLevel 94 = .ok (.goto (-74), 3) := by decide +kernel
theorem dX7_byLevel_97 : decode cX7_byLevel 97 = .ok (.iload 4, 2) := by decide +kernel
theorem dX7_byLevel_99 : decode cX7_byLevel 99 = .ok (.iload_n 1, 1) := by decide +kernel
theorem dX7_byLevel_100 : decode cX7_byLevel 100 = .ok (.if_icmp .ne 7, 3) := by decide +kernel
theorem dX7_byLevel_103 : decode cX7_byLevel 103 = .ok (.iload_n 3, 1) := by decide +kernel
theorem dX7_byLevel_104 : decode cX7_byLevel 104 = .ok (.goto 4, 3) := by decide +kernel
theorem dX7_byLevel_107 : decode cX7_byLevel 107 = .ok (.iload_n 2, 1) := by decide +kernel
theorem dX7_byLevel_108 : decode cX7_byLevel 108 = .ok (.istore_n 2, 1) := by decide +kernel
theorem dX7_byLevel_109 : decode cX7_byLevel 109 = .ok (.iinc 3 1, 3) := by decide +kernel
theorem dX7_byLevel_112 : decode cX7_byLevel 112 = .ok (.goto (-108), 3) := by decide +kernel
theorem dX7_byLevel_115 : decode cX7_byLevel 115 = .ok (.iload_n 2, 1) := by decide +kernel
theorem dX7_byLevel_116 : decode cX7_byLevel 116 = .ok (.ireturn, 1) := by decide +kernel
theorem dX7_records_0 : decode cX7_records 0 = .ok (.aload_n 0, 1) := by decide +kernel
theorem dX7_records_1 : decode cX7_records 1 = .ok (.getfield 92, 3) := by decide +kernel
theorem dX7_records_4 : decode cX7_records 4 = .ok (.iconst 5, 1) := by decide +kernel
theorem dX7_records_5 : decode cX7_records 5 = .ok (.if_icmp .ne 44, 3) := by decide +kernel
theorem dX7_records_8 : decode cX7_records 8 = .ok (.iconst 0, 1) := by decide +kernel
theorem dX7_records_9 : decode cX7_records 9 = .ok (.istore_n 1, 1) := by decide +kernel
theorem dX7_records_10 : decode cX7_records 10 = .ok (.iload_n 1, 1) := by decide +kernel
theorem dX7_records_11 : decode cX7_records 11 = .ok (.sipush 2056, 3) := by decide +kernel
theorem dX7_records_14 : decode cX7_records 14 = .ok (.if_icmp .ge 25, 3) := by decide +kernel
theorem dX7_records_17 : decode cX7_records 17 = .ok (.aload_n 0, 1) := by decide +kernel
theorem dX7_records_18 : decode cX7_records 18 = .ok (.getfield 13, 3) := by decide +kernel
theorem dX7_records_21 : decode cX7_records 21 = .ok (.iload_n 1, 1) := by decide +kernel
theorem dX7_records_22 : decode cX7_records 22 = .ok (.aload_n 0, 1) := by decide +kernel
theorem dX7_records_23 : decode cX7_records 23 = .ok (.getfield 13, 3) := by decide +kernel
theorem dX7_records_26 : decode cX7_records 26 = .ok (.sipush 514, 3) := by decide +kernel
theorem dX7_records_29 : decode cX7_records 29 = .ok (.iload_n 1, 1) := by decide +kernel
theorem dX7_records_30 : decode cX7_records 30 = .ok (.iadd, 1) := by decide +kernel
theorem dX7_records_31 : decode cX7_records 31 = .ok (.iaload, 1) := by decide +kernel
theorem dX7_records_32 : decode cX7_records 32 = .ok (.iastore, 1) := by decide +kernel
theorem dX7_records_33 : decode cX7_records 33 = .ok (.iinc 1 1, 3) := by decide +kernel
theorem dX7_records_36 : decode cX7_records 36 = .ok (.goto (-26), 3) := by decide +kernel
theorem dX7_records_39 : decode cX7_records 39 = .ok (.aload_n 0, 1) := by decide +kernel
theorem dX7_records_40 : decode cX7_records 40 = .ok (.dup, 1) := by decide +kernel
theorem dX7_records_41 : decode cX7_records 41 = .ok (.getfield 92, 3) := by decide +kernel
theorem dX7_records_44 : decode cX7_records 44 = .ok (.iconst 1, 1) := by decide +kernel
theorem dX7_records_45 : decode cX7_records 45 = .ok (.isub, 1) := by decide +kernel
theorem dX7_records_46 : decode cX7_records 46 = .ok (.putfield 92, 3) := by decide +kernel
theorem dX7_records_49 : decode cX7_records 49 = .ok (.iconst 0, 1) := by decide +kernel
theorem dX7_records_50 : decode cX7_records 50 = .ok (.istore_n 1, 1) := by decide +kernel
theorem dX7_records_51 : decode cX7_records 51 = .ok (.iload_n 1, 1) := by decide +kernel
theorem dX7_records_52 : decode cX7_records 52 = .ok (.sipush 514, 3) := by decide +kernel
theorem dX7_records_55 : decode cX7_records 55 = .ok (.if_icmp .ge 30, 3) := by decide +kernel
theorem dX7_records_58 : decode cX7_records 58 = .ok (.aload_n 0, 1) := by decide +kernel
theorem dX7_records_59 : decode cX7_records 59 = .ok (.getfield 13, 3) := by decide +kernel
theorem dX7_records_62 : decode cX7_records 62 = .ok (.sipush 514, 3) := by decide +kernel
theorem dX7_records_65 : decode cX7_records 65 = .ok (.aload_n 0, 1) := by decide +kernel
theorem dX7_records_66 : decode cX7_records 66 = .ok (.getfield 92, 3) := by decide +kernel
theorem dX7_records_69 : decode cX7_records 69 = .ok (.imul, 1) := by decide +kernel
theorem dX7_records_70 : decode cX7_records 70 = .ok (.iload_n 1, 1) := by decide +kernel
theorem dX7_records_71 : decode cX7_records 71 = .ok (.iadd, 1) := by decide +kernel
theorem dX7_records_72 : decode cX7_records 72 = .ok (.aload_n 0, 1) := by decide +kernel
theorem dX7_records_73 : decode cX7_records 73 = .ok (.getfield 7, 3) := by decide +kernel
theorem dX7_records_76 : decode cX7_records 76 = .ok (.iload_n 1, 1) := by decide +kernel
theorem dX7_records_77 : decode cX7_records 77 = .ok (.iaload, 1) := by decide +kernel
theorem dX7_records_78 : decode cX7_records 78 = .ok (.iastore, 1) := by decide +kernel
theorem dX7_records_79 : decode cX7_records 79 = .ok (.iinc 1 1, 3) := by decide +kernel
theorem dX7_records_82 : decode cX7_records 82 = .ok (.goto (-31), 3) := by decide +kernel
theorem dX7_records_85 : decode cX7_records 85 = .ok (.aload_n 0, 1) := by decide +kernel
theorem dX7_records_86 : decode cX7_records 86 = .ok (.dup, 1) := by decide +kernel
theorem dX7_records_87 : decode cX7_records 87 = .ok (.getfield 92, 3) := by decide +kernel
theorem dX7_records_90 : decode cX7_records 90 = .ok (.iconst 1, 1) := by decide +kernel
theorem dX7_records_91 : decode cX7_records 91 = .ok (.iadd, 1) := by decide +kernel
theorem dX7_records_92 : decode cX7_records 92 = .ok (.putfield 92, 3) := by decide +kernel
theorem dX7_records_95 : decode cX7_records 95 = .ok (.return_, 1) := by decide +kernel
set_option maxRecDepth 20000 in
theorem ggX7_refusal_X7_isPoint : GoodIn wsX7_refusal wsX7_isPoint := goodIn_r _ [5, 6, 7, 4, 8] (by decide +kernel) (by decide +kernel)
set_option maxRecDepth 20000 in
theorem gX7_refusal_X7_isPoint : GoodIn wsX7_refusal (va_wsS RX7 95 yX7_isPoint wsX7_isPoint) := goodIn_app (goodIn_of _ (by decide +kernel)) ggX7_refusal_X7_isPoint
set_option maxRecDepth 20000 in
theorem ggX7_refusal_X7_in : GoodIn wsX7_refusal wsX7_in := goodIn_r _ [8] (by decide +kernel) (by decide +kernel)
set_option maxRecDepth 20000 in
theorem gX7_refusal_X7_in : GoodIn wsX7_refusal (va_wsS RX7 26 yX7_in wsX7_in) := goodIn_app (goodIn_of _ (by decide +kernel)) ggX7_refusal_X7_in
set_option maxRecDepth 20000 in
theorem ggX7_refusal_X7_owner : GoodIn wsX7_refusal wsX7_owner := goodIn_r _ [12, 1, 13, 14, 15, 4, 16, 17, 18, 19, 6, 7, 8, 20, 21, 22, 92, 93, 94, 95, 96, 97, 98, 99, 100, 101, 102, 103, 104] (by decide +kernel) (by decide +kernel)
set_option maxRecDepth 20000 in
theorem gX7_refusal_X7_owner : GoodIn wsX7_refusal (wsV RX7 54 RX7 yX7_owner wsX7_owner) := goodIn_app (goodIn_of _ (by decide +kernel)) ggX7_refusal_X7_owner
set_option maxRecDepth 20000 in
theorem ggX7_refusal_X7_isLine : GoodIn wsX7_refusal wsX7_isLine := goodIn_r _ [26, 1, 6, 7, 4, 8, 92, 93, 94, 95, 96, 97, 98, 99, 100, 101, 102, 103, 104] (by decide +kernel) (by decide +kernel)
set_option maxRecDepth 20000 in
theorem gX7_refusal_X7_isLine : GoodIn wsX7_refusal (wsV RX7 98 RX7 yX7_isLine wsX7_isLine) := goodIn_app (goodIn_of _ (by decide +kernel)) ggX7_refusal_X7_isLine
set_option maxRecDepth 20000 in
theorem ggX7_refusal_X7_whyNot : GoodIn wsX7_refusal wsX7_whyNot := goodIn_r _ [30, 31, 32, 33, 4, 34, 13, 14, 15, 16, 1, 35, 36, 37, 38, 39, 40, 41, 42, 17, 18, 19, 6, 7, 8, 20, 21, 22, 43, 44, 45, 9, 10, 11, 12, 46, 47, 48, 49, 92, 93, 94, 95, 96, 97, 98, 99, 100, 101, 102, 103, 104] (by decide +kernel) (by decide +kernel)
set_option maxRecDepth 20000 in
theorem gX7_refusal_X7_whyNot : GoodIn wsX7_refusal (wsV RX7 101 RX7 yX7_whyNot wsX7_whyNot) := goodIn_app (goodIn_of _ (by decide +kernel)) ggX7_refusal_X7_whyNot
set_option maxRecDepth 20000 in
theorem ggX7_refusal_X7_of : GoodIn wsX7_refusal wsX7_of := goodIn_r _ [16, 1, 92, 93, 94, 95, 96, 97, 98, 99, 100, 101, 102, 103, 104] (by decide +kernel) (by decide +kernel)
set_option maxRecDepth 20000 in
theorem gX7_refusal_X7_of : GoodIn wsX7_refusal (wsV RX7 37 RX7 yX7_of wsX7_of) := goodIn_app (goodIn_of _ (by decide +kernel)) ggX7_refusal_X7_of
set_option maxRecDepth 20000 in
theorem ggX7_refusal_X7_whyNoLabel : GoodIn wsX7_refusal wsX7_whyNoLabel := goodIn_r _ [53, 1, 54, 55, 56, 4, 57, 58, 59, 60, 61, 13, 14, 15, 16, 31, 32, 33, 34, 35, 36, 37, 38, 39, 40, 41, 42, 17, 18, 19, 6, 7, 8, 20, 21, 22, 62, 63, 64, 65, 66, 67, 68, 69, 70, 71, 72, 73, 74, 75, 76, 77, 78, 79, 80, 81, 82, 83, 84, 85, 86, 87, 92, 93, 94, 95, 96, 97, 98, 99, 100, 101, 102, 103, 104] (by decide +kernel) (by decide +kernel)
set_option maxRecDepth 20000 in
theorem gX7_refusal_X7_whyNoLabel : GoodIn wsX7_refusal (wsV RX7 89 RX7 yX7_whyNoLabel wsX7_whyNoLabel) := goodIn_app (goodIn_of _ (by decide +kernel)) ggX7_refusal_X7_whyNoLabel
set_option maxRecDepth 20000 in
theorem ggX7_refusal_X7_best : GoodIn wsX7_refusal wsX7_best := goodIn_r _ [91, 13, 14, 15, 4, 16, 1, 50, 51, 52, 53, 54, 55, 56, 57, 58, 59, 60, 61, 31, 32, 33, 34, 35, 36, 37, 38, 39, 40, 41, 42, 17, 18, 19, 6, 7, 8, 20, 21, 22, 62, 63, 64, 65, 66, 67, 68, 69, 70, 71, 72, 73, 74, 75, 76, 77, 78, 79, 80, 81, 82, 83, 84, 85, 86, 87, 92, 93, 94, 95, 96, 97, 98, 99, 100, 101, 102, 103, 104] (by decide +kernel) (by decide +kernel)
set_option maxRecDepth 20000 in
theorem gX7_refusal_X7_best : GoodIn wsX7_refusal (wsV RX7 104 RX7 yX7_best wsX7_best) := goodIn_app (goodIn_of _ (by decide +kernel)) ggX7_refusal_X7_best
theorem dX7_refusal_0 : decode cX7_refusal 0 = .ok (.iload_n 1, 1) := by decide +kernel
theorem dX7_refusal_1 : decode cX7_refusal 1 = .ok (.tableswitch 321 98 119 #[278, 321, 321, 321, 321, 305, 321, 321, 321, 321, 209, 321, 103, 321, 321, 321, 321, 154, 321, 250, 321, 195], 103) := by decide +kernel
theorem dX7_refusal_104 : decode cX7_refusal 104 = .ok (.iload_n 3, 1) := by decide +kernel
theorem dX7_refusal_105 : decode cX7_refusal 105 = .ok (.invokestatic 95, 3) := by decide +kernel
theorem dX7_refusal_108 : decode cX7_refusal 108 = .ok (.ifCond .ne 7, 3) := by decide +kernel
theorem dX7_refusal_111 : decode cX7_refusal 111 = .ok (.iconst 1, 1) := by decide +kernel
theorem dX7_refusal_112 : decode cX7_refusal 112 = .ok (.goto 42, 3) := by decide +kernel
theorem dX7_refusal_115 : decode cX7_refusal 115 = .ok (.iload_n 2, 1) := by decide +kernel
theorem dX7_refusal_116 : decode cX7_refusal 116 = .ok (.iconst 0, 1) := by decide +kernel
theorem dX7_refusal_117 : decode cX7_refusal 117 = .ok (.bipush 99, 2) := by decide +kernel
theorem dX7_refusal_119 : decode cX7_refusal 119 = .ok (.invokestatic 26, 3) := by decide +kernel
theorem dX7_refusal_122 : decode cX7_refusal 122 = .ok (.ifCond .ne 7, 3) := by decide +kernel
theorem dX7_refusal_125 : decode cX7_refusal 125 = .ok (.iconst 2, 1) := by decide +kernel
theorem dX7_refusal_126 : decode cX7_refusal 126 = .ok (.goto 28, 3) := by decide +kernel
theorem dX7_refusal_129 : decode cX7_refusal 129 = .ok (.aload_n 0, 1) := by decide +kernel
theorem dX7_refusal_130 : decode cX7_refusal 130 = .ok (.getfield 7, 3) := by decide +kernel
theorem dX7_refusal_133 : decode cX7_refusal 133 = .ok (.iconst 0, 1) := by decide +kernel
theorem dX7_refusal_134 : decode cX7_refusal 134 = .ok (.iaload, 1) := by decide +kernel
theorem dX7_refusal_135 : decode cX7_refusal 135 = .ok (.bipush 8, 2) := by decide +kernel
theorem dX7_refusal_137 : decode cX7_refusal 137 = .ok (.if_icmp .eq 12, 3) := by decide +kernel
theorem dX7_refusal_140 : decode cX7_refusal 140 = .ok (.aload_n 0, 1) := by decide +kernel
theorem dX7_refusal_141 : decode cX7_refusal 141 = .ok (.iload_n 3, 1) := by decide +kernel
theorem dX7_refusal_142 : decode cX7_refusal 142 = .ok (.invokevirtual 54, 3) := by decide +kernel
theorem dX7_refusal_145 : decode cX7_refusal 145 = .ok (.iconst (-1), 1) := by decide +kernel
theorem dX7_refusal_146 : decode cX7_refusal 146 = .ok (.if_icmp .eq 7, 3) := by decide +kernel
theorem dX7_refusal_149 : decode cX7_refusal 149 = .ok (.iconst 3, 1) := by decide +kernel
theorem dX7_refusal_150 : decode cX7_refusal 150 = .ok (.goto 4, 3) := by decide +kernel
theorem dX7_refusal_153 : decode cX7_refusal 153 = .ok (.iconst 0, 1) := by decide +kernel
theorem dX7_refusal_154 : decode cX7_refusal 154 = .ok (.ireturn, 1) := by decide +kernel
theorem dX7_refusal_155 : decode cX7_refusal 155 = .ok (.aload_n 0, 1) := by decide +kernel
theorem dX7_refusal_156 : decode cX7_refusal 156 = .ok (.iload_n 2, 1) := by decide +kernel
theorem dX7_refusal_157 : decode cX7_refusal 157 = .ok (.invokevirtual 98, 3) := by decide +kernel
theorem dX7_refusal_160 : decode cX7_refusal 160 = .ok (.ifCond .ne 7, 3) := by decide +kernel
theorem dX7_refusal_163 : decode cX7_refusal 163 = .ok (.iconst 1, 1) := by decide +kernel
theorem dX7_refusal_164 : decode cX7_refusal 164 = .ok (.goto 31, 3) := by decide +kernel
theorem dX7_refusal_167 : decode cX7_refusal 167 = .ok (.iload_n 3, 1) := by decide +kernel
theorem dX7_refusal_168 : decode cX7_refusal 168 = .ok (.iconst 0, 1) := by decide +kernel
theorem dX7_refusal_169 : decode cX7_refusal 169 = .ok (.bipush 7, 2) := by decide +kernel
theorem dX7_refusal_171 : decode cX7_refusal 171 = .ok (.invokestatic 26, 3) := by decide +kernel
theorem dX7_refusal_174 : decode cX7_refusal 174 = .ok (.ifCond .ne 7, 3) := by decide +kernel
theorem dX7_refusal_177 : decode cX7_refusal 177 = .ok (.iconst 2, 1) := by decide +kernel
theorem dX7_refusal_178 : decode cX7_refusal 178 = .ok (.goto 17, 3) := by decide +kernel
theorem dX7_refusal_181 : decode cX7_refusal 181 = .ok (.aload_n 0, 1) := by decide +kernel
theorem dX7_refusal_182 : decode cX7_refusal 182 = .ok (.iload_n 2, 1) := by decide +kernel
theorem dX7_refusal_183 : decode cX7_refusal 183 = .ok (.iload_n 3, 1) := by decide +kernel
theorem dX7_refusal_184 : decode cX7_refusal 184 = .ok (.invokevirtual 101, 3) := by decide +kernel
theorem dX7_refusal_187 : decode cX7_refusal 187 = .ok (.ifCond .le 7, 3) := by decide +kernel
theorem dX7_refusal_190 : decode cX7_refusal 190 = .ok (.iconst 3, 1) := by decide +kernel
theorem dX7_refusal_191 : decode cX7_refusal 191 = .ok (.goto 4, 3) := by decide +kernel
theorem dX7_refusal_194 : decode cX7_refusal 194 = .ok (.iconst 0, 1) := by decide +kernel
theorem dX7_refusal_195 : decode cX7_refusal 195 = .ok (.ireturn, 1) := by decide +kernel
theorem dX7_refusal_196 : decode cX7_refusal 196 = .ok (.aload_n 0, 1) := by decide +kernel
theorem dX7_refusal_197 : decode cX7_refusal 197 = .ok (.iload_n 2, 1) := by decide +kernel
theorem dX7_refusal_198 : decode cX7_refusal 198 = .ok (.invokevirtual 98, 3) := by decide +kernel
theorem dX7_refusal_201 : decode cX7_refusal 201 = .ok (.ifCond .eq 7, 3) := by decide +kernel
theorem dX7_refusal_204 : decode cX7_refusal 204 = .ok (.iconst 0, 1) := by decide +kernel
theorem dX7_refusal_205 : decode cX7_refusal 205 = .ok (.goto 4, 3) := by decide +kernel
theorem dX7_refusal_208 : decode cX7_refusal 208 = .ok (.iconst 1, 1) := by decide +kernel
theorem dX7_refusal_209 : decode cX7_refusal 209 = .ok (.ireturn, 1) := by decide +kernel
theorem dX7_refusal_210 : decode cX7_refusal 210 = .ok (.aload_n 0, 1) := by decide +kernel
theorem dX7_refusal_211 : decode cX7_refusal 211 = .ok (.iload_n 2, 1) := by decide +kernel
theorem dX7_refusal_212 : decode cX7_refusal 212 = .ok (.invokevirtual 98, 3) := by decide +kernel
theorem dX7_refusal_215 : decode cX7_refusal 215 = .ok (.ifCond .eq 17, 3) := by decide +kernel
theorem dX7_refusal_218 : decode cX7_refusal 218 = .ok (.iload_n 3, 1) := by decide +kernel
theorem dX7_refusal_219 : decode cX7_refusal 219 = .ok (.iconst 0, 1) := by decide +kernel
theorem dX7_refusal_220 : decode cX7_refusal 220 = .ok (.aload_n 0, 1) := by decide +kernel
theorem dX7_refusal_221 : decode cX7_refusal 221 = .ok (.iload_n 2, 1) := by decide +kernel
theorem dX7_refusal_222 : decode cX7_refusal 222 = .ok (.iconst 2, 1) := by decide +kernel
theorem dX7_refusal_223 : decode cX7_refusal 223 = .ok (.invokevirtual 37, 3) := by decide +kernel
theorem dX7_refusal_226 : decode cX7_refusal 226 = .ok (.invokestatic 26, 3) := by decide +kernel
theorem dX7_refusal_229 : decode cX7_refusal 229 = .ok (.ifCond .ne 7, 3) := by decide +kernel
theorem dX7_refusal_232 : decode cX7_refusal 232 = .ok (.iconst 1, 1) := by decide +kernel
theorem dX7_refusal_233 : decode cX7_refusal 233 = .ok (.goto 17, 3) := by decide +kernel
theorem dX7_refusal_236 : decode cX7_refusal 236 = .ok (.aload_n 0, 1) := by decide +kernel
theorem dX7_refusal_237 : decode cX7_refusal 237 = .ok (.iload_n 2, 1) := by decide +kernel
theorem dX7_refusal_238 : decode cX7_refusal 238 = .ok (.iload_n 3, 1) := by decide +kernel
theorem dX7_refusal_239 : decode cX7_refusal 239 = .ok (.invokevirtual 89, 3) := by decide +kernel
theorem dX7_refusal_242 : decode cX7_refusal 242 = .ok (.ifCond .le 7, 3) := by decide +kernel
theorem dX7_refusal_245 : decode cX7_refusal 245 = .ok (.iconst 2, 1) := by decide +kernel
theorem dX7_refusal_246 : decode cX7_refusal 246 = .ok (.goto 4, 3) := by decide +kernel
theorem dX7_refusal_249 : decode cX7_refusal 249 = .ok (.iconst 0, 1) := by decide +kernel
theorem dX7_refusal_250 : decode cX7_refusal 250 = .ok (.ireturn, 1) := by decide +kernel
theorem dX7_refusal_251 : decode cX7_refusal 251 = .ok (.aload_n 0, 1) := by decide +kernel
theorem dX7_refusal_252 : decode cX7_refusal 252 = .ok (.iload_n 2, 1) := by decide +kernel
theorem dX7_refusal_253 : decode cX7_refusal 253 = .ok (.invokevirtual 98, 3) := by decide +kernel
theorem dX7_refusal_256 : decode cX7_refusal 256 = .ok (.ifCond .ne 7, 3) := by decide +kernel
theorem dX7_refusal_259 : decode cX7_refusal 259 = .ok (.iconst 1, 1) := by decide +kernel
theorem dX7_refusal_260 : decode cX7_refusal 260 = .ok (.goto 18, 3) := by decide +kernel
theorem dX7_refusal_263 : decode cX7_refusal 263 = .ok (.aload_n 0, 1) := by decide +kernel
theorem dX7_refusal_264 : decode cX7_refusal 264 = .ok (.iload_n 2, 1) := by decide +kernel
theorem dX7_refusal_265 : decode cX7_refusal 265 = .ok (.iconst 3, 1) := by decide +kernel
theorem dX7_refusal_266 : decode cX7_refusal 266 = .ok (.invokevirtual 37, 3) := by decide +kernel
theorem dX7_refusal_269 : decode cX7_refusal 269 = .ok (.iconst (-1), 1) := by decide +kernel
theorem dX7_refusal_270 : decode cX7_refusal 270 = .ok (.if_icmp .ne 7, 3) := by decide +kernel
theorem dX7_refusal_273 : decode cX7_refusal 273 = .ok (.iconst 2, 1) := by decide +kernel
theorem dX7_refusal_274 : decode cX7_refusal 274 = .ok (.goto 4, 3) := by decide +kernel
theorem dX7_refusal_277 : decode cX7_refusal 277 = .ok (.iconst 0, 1) := by decide +kernel
theorem dX7_refusal_278 : decode cX7_refusal 278 = .ok (.ireturn, 1) := by decide +kernel
theorem dX7_refusal_279 : decode cX7_refusal 279 = .ok (.aload_n 0, 1) := by decide +kernel
theorem dX7_refusal_280 : decode cX7_refusal 280 = .ok (.iload_n 2, 1) := by decide +kernel
theorem dX7_refusal_281 : decode cX7_refusal 281 = .ok (.invokevirtual 98, 3) := by decide +kernel
theorem dX7_refusal_284 : decode cX7_refusal 284 = .ok (.ifCond .ne 7, 3) := by decide +kernel
theorem dX7_refusal_287 : decode cX7_refusal 287 = .ok (.iconst 1, 1) := by decide +kernel
theorem dX7_refusal_288 : decode cX7_refusal 288 = .ok (.goto 17, 3) := by decide +kernel
theorem dX7_refusal_291 : decode cX7_refusal 291 = .ok (.aload_n 0, 1) := by decide +kernel
theorem dX7_refusal_292 : decode cX7_refusal 292 = .ok (.iload_n 2, 1) := by decide +kernel
theorem dX7_refusal_293 : decode cX7_refusal 293 = .ok (.invokevirtual 104, 3) := by decide +kernel
theorem dX7_refusal_296 : decode cX7_refusal 296 = .ok (.iconst (-1), 1) := by decide +kernel
theorem dX7_refusal_297 : decode cX7_refusal 297 = .ok (.if_icmp .ne 7, 3) := by decide +kernel
theorem dX7_refusal_300 : decode cX7_refusal 300 = .ok (.iconst 2, 1) := by decide +kernel
theorem dX7_refusal_301 : decode cX7_refusal 301 = .ok (.goto 4, 3) := by decide +kernel
theorem dX7_refusal_304 : decode cX7_refusal 304 = .ok (.iconst 0, 1) := by decide +kernel
theorem dX7_refusal_305 : decode cX7_refusal 305 = .ok (.ireturn, 1) := by decide +kernel
theorem dX7_refusal_306 : decode cX7_refusal 306 = .ok (.iload_n 2, 1) := by decide +kernel
theorem dX7_refusal_307 : decode cX7_refusal 307 = .ok (.iconst 1, 1) := by decide +kernel
theorem dX7_refusal_308 : decode cX7_refusal 308 = .ok (.bipush 6, 2) := by decide +kernel
theorem dX7_refusal_310 : decode cX7_refusal 310 = .ok (.invokestatic 26, 3) := by decide +kernel
theorem dX7_refusal_313 : decode cX7_refusal 313 = .ok (.ifCond .eq 7, 3) := by decide +kernel
theorem dX7_refusal_316 : decode cX7_refusal 316 = .ok (.iconst 0, 1) := by decide +kernel
theorem dX7_refusal_317 : decode cX7_refusal 317 = .ok (.goto 4, 3) := by decide +kernel
theorem dX7_refusal_320 : decode cX7_refusal 320 = .ok (.iconst 1, 1) := by decide +kernel
theorem dX7_refusal_321 : decode cX7_refusal 321 = .ok (.ireturn, 1) := by decide +kernel
theorem dX7_refusal_322 : decode cX7_refusal 322 = .ok (.iconst 0, 1) := by decide +kernel
theorem dX7_refusal_323 : decode cX7_refusal 323 = .ok (.ireturn, 1) := by decide +kernel
theorem dX7_wipes_0 : decode cX7_wipes 0 = .ok (.iconst 2, 1) := by decide +kernel
theorem dX7_wipes_1 : decode cX7_wipes 1 = .ok (.bipush 64, 2) := by decide +kernel
theorem dX7_wipes_3 : decode cX7_wipes 3 = .ok (.iload_n 1, 1) := by decide +kernel
theorem dX7_wipes_4 : decode cX7_wipes 4 = .ok (.imul, 1) := by decide +kernel
theorem dX7_wipes_5 : decode cX7_wipes 5 = .ok (.iadd, 1) := by decide +kernel
theorem dX7_wipes_6 : decode cX7_wipes 6 = .ok (.istore_n 2, 1) := by decide +kernel
theorem dX7_wipes_7 : decode cX7_wipes 7 = .ok (.iload_n 2, 1) := by decide +kernel
theorem dX7_wipes_8 : decode cX7_wipes 8 = .ok (.sipush 450, 3) := by decide +kernel
theorem dX7_wipes_11 : decode cX7_wipes 11 = .ok (.if_icmp .ge 24, 3) := by decide +kernel
theorem dX7_wipes_14 : decode cX7_wipes 14 = .ok (.aload_n 0, 1) := by decide +kernel
theorem dX7_wipes_15 : decode cX7_wipes 15 = .ok (.getfield 7, 3) := by decide +kernel
theorem dX7_wipes_18 : decode cX7_wipes 18 = .ok (.iload_n 2, 1) := by decide +kernel
theorem dX7_wipes_19 : decode cX7_wipes 19 = .ok (.aload_n 0, 1) := by decide +kernel
theorem dX7_wipes_20 : decode cX7_wipes 20 = .ok (.getfield 7, 3) := by decide +kernel
theorem dX7_wipes_23 : decode cX7_wipes 23 = .ok (.iload_n 2, 1) := by decide +kernel
theorem dX7_wipes_24 : decode cX7_wipes 24 = .ok (.bipush 64, 2) := by decide +kernel
theorem dX7_wipes_26 : decode cX7_wipes 26 = .ok (.iadd, 1) := by decide +kernel
theorem dX7_wipes_27 : decode cX7_wipes 27 = .ok (.iaload, 1) := by decide +kernel
theorem dX7_wipes_28 : decode cX7_wipes 28 = .ok (.iastore, 1) := by decide +kernel
theorem dX7_wipes_29 : decode cX7_wipes 29 = .ok (.iinc 2 1, 3) := by decide +kernel
theorem dX7_wipes_32 : decode cX7_wipes 32 = .ok (.goto (-25), 3) := by decide +kernel
theorem dX7_wipes_35 : decode cX7_wipes 35 = .ok (.sipush 450, 3) := by decide +kernel
theorem dX7_wipes_38 : decode cX7_wipes 38 = .ok (.istore_n 2, 1) := by decide +kernel
theorem dX7_wipes_39 : decode cX7_wipes 39 = .ok (.iload_n 2, 1) := by decide +kernel
theorem dX7_wipes_40 : decode cX7_wipes 40 = .ok (.sipush 514, 3) := by decide +kernel
theorem dX7_wipes_43 : decode cX7_wipes 43 = .ok (.if_icmp .ge 16, 3) := by decide +kernel
theorem dX7_wipes_46 : decode cX7_wipes 46 = .ok (.aload_n 0, 1) := by decide +kernel
theorem dX7_wipes_47 : decode cX7_wipes 47 = .ok (.getfield 7, 3) := by decide +kernel
theorem dX7_wipes_50 : decode cX7_wipes 50 = .ok (.iload_n 2, 1) := by decide +kernel
theorem dX7_wipes_51 : decode cX7_wipes 51 = .ok (.iconst 0, 1) := by decide +kernel
theorem dX7_wipes_52 : decode cX7_wipes 52 = .ok (.iastore, 1) := by decide +kernel
theorem dX7_wipes_53 : decode cX7_wipes 53 = .ok (.iinc 2 1, 3) := by decide +kernel
theorem dX7_wipes_56 : decode cX7_wipes 56 = .ok (.goto (-17), 3) := by decide +kernel
theorem dX7_wipes_59 : decode cX7_wipes 59 = .ok (.aload_n 0, 1) := by decide +kernel
theorem dX7_wipes_60 : decode cX7_wipes 60 = .ok (.getfield 7, 3) := by decide +kernel
theorem dX7_wipes_63 : decode cX7_wipes 63 = .ok (.iconst 0, 1) := by decide +kernel
theorem dX7_wipes_64 : decode cX7_wipes 64 = .ok (.dup2, 1) := by decide +kernel
theorem dX7_wipes_65 : decode cX7_wipes 65 = .ok (.iaload, 1) := by decide +kernel
theorem dX7_wipes_66 : decode cX7_wipes 66 = .ok (.iconst 1, 1) := by decide +kernel
theorem dX7_wipes_67 : decode cX7_wipes 67 = .ok (.isub, 1) := by decide +kernel
theorem dX7_wipes_68 : decode cX7_wipes 68 = .ok (.iastore, 1) := by decide +kernel
theorem dX7_wipes_69 : decode cX7_wipes 69 = .ok (.aload_n 0, 1) := by decide +kernel
theorem dX7_wipes_70 : decode cX7_wipes 70 = .ok (.getfield 7, 3) := by decide +kernel
theorem dX7_wipes_73 : decode cX7_wipes 73 = .ok (.iconst 0, 1) := by decide +kernel
theorem dX7_wipes_74 : decode cX7_wipes 74 = .ok (.iaload, 1) := by decide +kernel
theorem dX7_wipes_75 : decode cX7_wipes 75 = .ok (.ireturn, 1) := by decide +kernel
set_option maxRecDepth 20000 in
theorem ggX7_labelsAll_X7_puts : GoodIn wsX7_labelsAll wsX7_puts := goodIn_r _ [6, 1, 82, 83, 84, 85, 86, 87, 88, 89, 90, 91, 92, 93, 94] (by decide +kernel) (by decide +kernel)
set_option maxRecDepth 20000 in
theorem gX7_labelsAll_X7_puts : GoodIn wsX7_labelsAll (wsV RX7 107 RX7 yX7_puts wsX7_puts) := goodIn_app (goodIn_of _ (by decide +kernel)) ggX7_labelsAll_X7_puts
set_option maxRecDepth 20000 in
theorem ggX7_labelsAll_X7_byLevel : GoodIn wsX7_labelsAll wsX7_byLevel := goodIn_r _ [10, 1, 11, 12, 13, 5, 14, 82, 83, 84, 85, 86, 87, 88, 89, 90, 91, 92, 93, 94] (by decide +kernel) (by decide +kernel)
set_option maxRecDepth 20000 in
theorem gX7_labelsAll_X7_byLevel : GoodIn wsX7_labelsAll (wsV RX7 111 RX7 yX7_byLevel wsX7_byLevel) := goodIn_app (goodIn_of _ (by decide +kernel)) ggX7_labelsAll_X7_byLevel
set_option maxRecDepth 20000 in
theorem ggX7_labelsAll_X7_best : GoodIn wsX7_labelsAll wsX7_best := goodIn_r _ [18, 11, 12, 13, 5, 14, 1, 19, 20, 21, 22, 23, 24, 25, 26, 27, 28, 29, 30, 31, 32, 33, 34, 35, 36, 37, 38, 39, 40, 41, 42, 43, 44, 45, 46, 47, 48, 49, 50, 51, 52, 53, 54, 55, 56, 57, 58, 59, 60, 61, 62, 63, 64, 65, 66, 67, 68, 69, 70, 71, 72, 73, 74, 75, 76, 77, 82, 83, 84, 85, 86, 87, 88, 89, 90, 91, 92, 93, 94] (by decide +kernel) (by decide +kernel)
set_option maxRecDepth 20000 in
theorem gX7_labelsAll_X7_best : GoodIn wsX7_labelsAll (wsV RX7 104 RX7 yX7_best wsX7_best) := goodIn_app (goodIn_of _ (by decide +kernel)) ggX7_labelsAll_X7_best
set_option maxRecDepth 20000 in
theorem ggX7_labelsAll_X7_labelled : GoodIn wsX7_labelsAll wsX7_labelled := goodIn_r _ [81, 1, 11, 12, 13, 5, 14, 82, 83, 84, 85, 86, 87, 88, 89, 90, 91, 92, 93, 94] (by decide +kernel) (by decide +kernel)
set_option maxRecDepth 20000 in
theorem gX7_labelsAll_X7_labelled : GoodIn wsX7_labelsAll (wsV RX7 114 RX7 yX7_labelled wsX7_labelled) := goodIn_app (goodIn_of _ (by decide +kernel)) ggX7_labelsAll_X7_labelled
theorem dX7_labelsAll_0 : decode cX7_labelsAll 0 = .ok (.iconst 0, 1) := by decide +kernel
theorem dX7_labelsAll_1 : decode cX7_labelsAll 1 = .ok (.istore_n 1, 1) := by decide +kernel
theorem dX7_labelsAll_2 : decode cX7_labelsAll 2 = .ok (.iload_n 1, 1) := by decide +kernel
theorem dX7_labelsAll_3 : decode cX7_labelsAll 3 = .ok (.aload_n 0, 1) := by decide +kernel
theorem dX7_labelsAll_4 : decode cX7_labelsAll 4 = .ok (.getfield 7, 3) := by decide +kernel
theorem dX7_labelsAll_7 : decode cX7_labelsAll 7 = .ok (.iconst 0, 1) := by decide +kernel
theorem dX7_labelsAll_8 : decode cX7_labelsAll 8 = .ok (.iaload, 1) := by decide +kernel
theorem dX7_labelsAll_9 : decode cX7_labelsAll 9 = .ok (.if_icmp .ge 16, 3) := by decide +kernel
theorem dX7_labelsAll_12 : decode cX7_labelsAll 12 = .ok (.aload_n 0, 1) := by decide +kernel
theorem dX7_labelsAll_13 : decode cX7_labelsAll 13 = .ok (.iload_n 1, 1) := by decide +kernel
theorem dX7_labelsAll_14 : decode cX7_labelsAll 14 = .ok (.iconst 3, 1) := by decide +kernel
theorem dX7_labelsAll_15 : decode cX7_labelsAll 15 = .ok (.iconst (-1), 1) := by decide +kernel
theorem dX7_labelsAll_16 : decode cX7_labelsAll 16 = .ok (.invokevirtual 107, 3) := by decide +kernel
theorem dX7_labelsAll_19 : decode cX7_labelsAll 19 = .ok (.iinc 1 1, 3) := by decide +kernel
theorem dX7_labelsAll_22 : decode cX7_labelsAll 22 = .ok (.goto (-20), 3) := by decide +kernel
theorem dX7_labelsAll_25 : decode cX7_labelsAll 25 = .ok (.iconst 0, 1) := by decide +kernel
theorem dX7_labelsAll_26 : decode cX7_labelsAll 26 = .ok (.istore_n 1, 1) := by decide +kernel
theorem dX7_labelsAll_27 : decode cX7_labelsAll 27 = .ok (.iload_n 1, 1) := by decide +kernel
theorem dX7_labelsAll_28 : decode cX7_labelsAll 28 = .ok (.aload_n 0, 1) := by decide +kernel
theorem dX7_labelsAll_29 : decode cX7_labelsAll 29 = .ok (.getfield 7, 3) := by decide +kernel
theorem dX7_labelsAll_32 : decode cX7_labelsAll 32 = .ok (.iconst 0, 1) := by decide +kernel
theorem dX7_labelsAll_33 : decode cX7_labelsAll 33 = .ok (.iaload, 1) := by decide +kernel
theorem dX7_labelsAll_34 : decode cX7_labelsAll 34 = .ok (.if_icmp .ge 26, 3) := by decide +kernel
theorem dX7_labelsAll_37 : decode cX7_labelsAll 37 = .ok (.aload_n 0, 1) := by decide +kernel
theorem dX7_labelsAll_38 : decode cX7_labelsAll 38 = .ok (.iload_n 1, 1) := by decide +kernel
theorem dX7_labelsAll_39 : decode cX7_labelsAll 39 = .ok (.invokevirtual 111, 3) := by decide +kernel
theorem dX7_labelsAll_42 : decode cX7_labelsAll 42 = .ok (.istore_n 2, 1) := by decide +kernel
theorem dX7_labelsAll_43 : decode cX7_labelsAll 43 = .ok (.aload_n 0, 1) := by decide +kernel
theorem dX7_labelsAll_44 : decode cX7_labelsAll 44 = .ok (.iload_n 2, 1) := by decide +kernel
theorem dX7_labelsAll_45 : decode cX7_labelsAll 45 = .ok (.iconst 3, 1) := by decide +kernel
theorem dX7_labelsAll_46 : decode cX7_labelsAll 46 = .ok (.aload_n 0, 1) := by decide +kernel
theorem dX7_labelsAll_47 : decode cX7_labelsAll 47 = .ok (.iload_n 2, 1) := by decide +kernel
theorem dX7_labelsAll_48 : decode cX7_labelsAll 48 = .ok (.invokevirtual 104, 3) := by decide +kernel
theorem dX7_labelsAll_51 : decode cX7_labelsAll 51 = .ok (.invokevirtual 107, 3) := by decide +kernel
theorem dX7_labelsAll_54 : decode cX7_labelsAll 54 = .ok (.iinc 1 1, 3) := by decide +kernel
theorem dX7_labelsAll_57 : decode cX7_labelsAll 57 = .ok (.goto (-30), 3) := by decide +kernel
theorem dX7_labelsAll_60 : decode cX7_labelsAll 60 = .ok (.aload_n 0, 1) := by decide +kernel
theorem dX7_labelsAll_61 : decode cX7_labelsAll 61 = .ok (.invokevirtual 114, 3) := by decide +kernel
theorem dX7_labelsAll_64 : decode cX7_labelsAll 64 = .ok (.ireturn, 1) := by decide +kernel
set_option maxRecDepth 20000 in
theorem ggX7_does_X7_puts : GoodIn wsX7_does wsX7_puts := goodIn_r _ [6, 1, 90, 91, 92, 93, 94, 95, 96, 97, 98, 99, 100, 101, 102] (by decide +kernel) (by decide +kernel)
set_option maxRecDepth 20000 in
theorem gX7_does_X7_puts : GoodIn wsX7_does (wsV RX7 107 RX7 yX7_puts wsX7_puts) := goodIn_app (goodIn_of _ (by decide +kernel)) ggX7_does_X7_puts
set_option maxRecDepth 20000 in
theorem ggX7_does_X7_of : GoodIn wsX7_does wsX7_of := goodIn_r _ [10, 1, 90, 91, 92, 93, 94, 95, 96, 97, 98, 99, 100, 101, 102] (by decide +kernel) (by decide +kernel)
set_option maxRecDepth 20000 in
theorem gX7_does_X7_of : GoodIn wsX7_does (wsV RX7 37 RX7 yX7_of wsX7_of) := goodIn_app (goodIn_of _ (by decide +kernel)) ggX7_does_X7_of
set_option maxRecDepth 20000 in
theorem ggX7_does_X7_closes : GoodIn wsX7_does wsX7_closes := goodIn_r _ [14, 7, 8, 9, 5, 10, 1, 15, 16, 17, 18, 19, 20, 21, 22, 23, 24, 25, 26, 27, 28, 29, 30, 31, 90, 91, 92, 93, 94, 95, 96, 97, 98, 99, 100, 101, 102] (by decide +kernel) (by decide +kernel)
set_option maxRecDepth 20000 in
theorem gX7_does_X7_closes : GoodIn wsX7_does (wsV RX7 47 RX7 yX7_closes wsX7_closes) := goodIn_app (goodIn_of _ (by decide +kernel)) ggX7_does_X7_closes
set_option maxRecDepth 20000 in
theorem ggX7_does_X7_wipes : GoodIn wsX7_does wsX7_wipes := goodIn_r _ [35, 1, 90, 91, 92, 93, 94, 95, 96, 97, 98, 99, 100, 101, 102] (by decide +kernel) (by decide +kernel)
set_option maxRecDepth 20000 in
theorem gX7_does_X7_wipes : GoodIn wsX7_does (wsV RX7 118 RX7 yX7_wipes wsX7_wipes) := goodIn_app (goodIn_of _ (by decide +kernel)) ggX7_does_X7_wipes
set_option maxRecDepth 20000 in
theorem ggX7_does_X7_bends : GoodIn wsX7_does wsX7_bends := goodIn_r _ [39, 40, 41, 42, 5, 43, 7, 8, 9, 10, 1, 26, 27, 28, 44, 45, 46, 47, 48, 49, 50, 51, 52, 53, 11, 12, 13, 14, 15, 16, 17, 18, 19, 20, 21, 22, 23, 24, 25, 29, 30, 31, 90, 91, 92, 93, 94, 95, 96, 97, 98, 99, 100, 101, 102] (by decide +kernel) (by decide +kernel)
set_option maxRecDepth 20000 in
theorem gX7_does_X7_bends : GoodIn wsX7_does (wsV RX7 83 RX7 yX7_bends wsX7_bends) := goodIn_app (goodIn_of _ (by decide +kernel)) ggX7_does_X7_bends
set_option maxRecDepth 20000 in
theorem ggX7_does_X7_best : GoodIn wsX7_does wsX7_best := goodIn_r _ [57, 7, 8, 9, 5, 10, 1, 58, 59, 60, 61, 62, 63, 64, 65, 40, 41, 42, 43, 11, 12, 13, 14, 15, 16, 17, 18, 19, 20, 21, 22, 23, 24, 25, 26, 27, 28, 29, 30, 31, 36, 37, 38, 39, 44, 45, 46, 47, 48, 49, 50, 51, 52, 53, 66, 67, 68, 69, 70, 71, 72, 73, 74, 75, 76, 77, 90, 91, 92, 93, 94, 95, 96, 97, 98, 99, 100, 101, 102] (by decide +kernel) (by decide +kernel)
set_option maxRecDepth 20000 in
theorem gX7_does_X7_best : GoodIn wsX7_does (wsV RX7 104 RX7 yX7_best wsX7_best) := goodIn_app (goodIn_of _ (by decide +kernel)) ggX7_does_X7_best
set_option maxRecDepth 20000 in
theorem ggX7_does_X7_labelsAll : GoodIn wsX7_does wsX7_labelsAll := goodIn_r _ [81, 1, 2, 3, 4, 5, 6, 82, 83, 84, 85, 7, 8, 9, 10, 54, 55, 56, 57, 58, 59, 60, 61, 62, 63, 64, 65, 40, 41, 42, 43, 11, 12, 13, 14, 15, 16, 17, 18, 19, 20, 21, 22, 23, 24, 25, 26, 27, 28, 29, 30, 31, 36, 37, 38, 39, 44, 45, 46, 47, 48, 49, 50, 51, 52, 53, 66, 67, 68, 69, 70, 71, 72, 73, 74, 75, 76, 77, 86, 87, 88, 89, 90, 91, 92, 93, 94, 95, 96, 97, 98, 99, 100, 101, 102] (by decide +kernel) (by decide +kernel)
set_option maxRecDepth 20000 in
theorem gX7_does_X7_labelsAll : GoodIn wsX7_does (wsV RX7 121 RX7 yX7_labelsAll wsX7_labelsAll) := goodIn_app (goodIn_of _ (by decide +kernel)) ggX7_does_X7_labelsAll
theorem dX7_does_0 : decode cX7_does 0 = .ok (.iconst 0, 1) := by decide +kernel
theorem dX7_does_1 : decode cX7_does 1 = .ok (.istore 4, 2) := by decide +kernel
theorem dX7_does_3 : decode cX7_does 3 = .ok (.iload_n 1, 1) := by decide +kernel
theorem dX7_does_4 : decode cX7_does 4 = .ok (.tableswitch 264 97 119 #[259, 241, 264, 264, 264, 264, 264, 264, 264, 264, 264, 209, 264, 108, 264, 264, 264, 264, 161, 264, 223, 264, 203], 108) := by decide +kernel
theorem dX7_does_112 : decode cX7_does 112 = .ok (.aload_n 0, 1) := by decide +kernel
theorem dX7_does_113 : decode cX7_does 113 = .ok (.getfield 7, 3) := by decide +kernel
theorem dX7_does_116 : decode cX7_does 116 = .ok (.iconst 0, 1) := by decide +kernel
theorem dX7_does_117 : decode cX7_does 117 = .ok (.iaload, 1) := by decide +kernel
theorem dX7_does_118 : decode cX7_does 118 = .ok (.istore 5, 2) := by decide +kernel
theorem dX7_does_120 : decode cX7_does 120 = .ok (.aload_n 0, 1) := by decide +kernel
theorem dX7_does_121 : decode cX7_does 121 = .ok (.getfield 7, 3) := by decide +kernel
theorem dX7_does_124 : decode cX7_does 124 = .ok (.iconst 0, 1) := by decide +kernel
theorem dX7_does_125 : decode cX7_does 125 = .ok (.dup2, 1) := by decide +kernel
theorem dX7_does_126 : decode cX7_does 126 = .ok (.iaload, 1) := by decide +kernel
theorem dX7_does_127 : decode cX7_does 127 = .ok (.iconst 1, 1) := by decide +kernel
theorem dX7_does_128 : decode cX7_does 128 = .ok (.iadd, 1) := by decide +kernel
theorem dX7_does_129 : decode cX7_does 129 = .ok (.iastore, 1) := by decide +kernel
theorem dX7_does_130 : decode cX7_does 130 = .ok (.aload_n 0, 1) := by decide +kernel
theorem dX7_does_131 : decode cX7_does 131 = .ok (.iload 5, 2) := by decide +kernel
theorem dX7_does_133 : decode cX7_does 133 = .ok (.iconst 0, 1) := by decide +kernel
theorem dX7_does_134 : decode cX7_does 134 = .ok (.iload_n 2, 1) := by decide +kernel
theorem dX7_does_135 : decode cX7_does 135 = .ok (.invokevirtual 107, 3) := by decide +kernel
theorem dX7_does_138 : decode cX7_does 138 = .ok (.aload_n 0, 1) := by decide +kernel
theorem dX7_does_139 : decode cX7_does 139 = .ok (.iload 5, 2) := by decide +kernel
theorem dX7_does_141 : decode cX7_does 141 = .ok (.iconst 1, 1) := by decide +kernel
theorem dX7_does_142 : decode cX7_does 142 = .ok (.iload_n 3, 1) := by decide +kernel
theorem dX7_does_143 : decode cX7_does 143 = .ok (.invokevirtual 107, 3) := by decide +kernel
theorem dX7_does_146 : decode cX7_does 146 = .ok (.aload_n 0, 1) := by decide +kernel
theorem dX7_does_147 : decode cX7_does 147 = .ok (.iload 5, 2) := by decide +kernel
theorem dX7_does_149 : decode cX7_does 149 = .ok (.iconst 2, 1) := by decide +kernel
theorem dX7_does_150 : decode cX7_does 150 = .ok (.iconst 0, 1) := by decide +kernel
theorem dX7_does_151 : decode cX7_does 151 = .ok (.invokevirtual 107, 3) := by decide +kernel
theorem dX7_does_154 : decode cX7_does 154 = .ok (.aload_n 0, 1) := by decide +kernel
theorem dX7_does_155 : decode cX7_does 155 = .ok (.iload 5, 2) := by decide +kernel
theorem dX7_does_157 : decode cX7_does 157 = .ok (.iconst 3, 1) := by decide +kernel
theorem dX7_does_158 : decode cX7_does 158 = .ok (.iconst (-1), 1) := by decide +kernel
theorem dX7_does_159 : decode cX7_does 159 = .ok (.invokevirtual 107, 3) := by decide +kernel
theorem dX7_does_162 : decode cX7_does 162 = .ok (.iload 5, 2) := by decide +kernel
theorem dX7_does_164 : decode cX7_does 164 = .ok (.ireturn, 1) := by decide +kernel
theorem dX7_does_165 : decode cX7_does 165 = .ok (.aload_n 0, 1) := by decide +kernel
theorem dX7_does_166 : decode cX7_does 166 = .ok (.iload_n 2, 1) := by decide +kernel
theorem dX7_does_167 : decode cX7_does 167 = .ok (.iconst 4, 1) := by decide +kernel
theorem dX7_does_168 : decode cX7_does 168 = .ok (.aload_n 0, 1) := by decide +kernel
theorem dX7_does_169 : decode cX7_does 169 = .ok (.iload_n 2, 1) := by decide +kernel
theorem dX7_does_170 : decode cX7_does 170 = .ok (.iconst 2, 1) := by decide +kernel
theorem dX7_does_171 : decode cX7_does 171 = .ok (.invokevirtual 37, 3) := by decide +kernel
theorem dX7_does_174 : decode cX7_does 174 = .ok (.iadd, 1) := by decide +kernel
theorem dX7_does_175 : decode cX7_does 175 = .ok (.iload_n 3, 1) := by decide +kernel
theorem dX7_does_176 : decode cX7_does 176 = .ok (.invokevirtual 107, 3) := by decide +kernel
theorem dX7_does_179 : decode cX7_does 179 = .ok (.aload_n 0, 1) := by decide +kernel
theorem dX7_does_180 : decode cX7_does 180 = .ok (.iload_n 2, 1) := by decide +kernel
theorem dX7_does_181 : decode cX7_does 181 = .ok (.iconst 2, 1) := by decide +kernel
theorem dX7_does_182 : decode cX7_does 182 = .ok (.aload_n 0, 1) := by decide +kernel
theorem dX7_does_183 : decode cX7_does 183 = .ok (.iload_n 2, 1) := by decide +kernel
theorem dX7_does_184 : decode cX7_does 184 = .ok (.iconst 2, 1) := by decide +kernel
theorem dX7_does_185 : decode cX7_does 185 = .ok (.invokevirtual 37, 3) := by decide +kernel
theorem dX7_does_188 : decode cX7_does 188 = .ok (.iconst 1, 1) := by decide +kernel
theorem dX7_does_189 : decode cX7_does 189 = .ok (.iadd, 1) := by decide +kernel
theorem dX7_does_190 : decode cX7_does 190 = .ok (.invokevirtual 107, 3) := by decide +kernel
theorem dX7_does_193 : decode cX7_does 193 = .ok (.aload_n 0, 1) := by decide +kernel
theorem dX7_does_194 : decode cX7_does 194 = .ok (.iload_n 2, 1) := by decide +kernel
theorem dX7_does_195 : decode cX7_does 195 = .ok (.invokevirtual 47, 3) := by decide +kernel
theorem dX7_does_198 : decode cX7_does 198 = .ok (.ifCond .eq 7, 3) := by decide +kernel
theorem dX7_does_201 : decode cX7_does 201 = .ok (.iconst 1, 1) := by decide +kernel
theorem dX7_does_202 : decode cX7_does 202 = .ok (.goto 4, 3) := by decide +kernel
theorem dX7_does_205 : decode cX7_does 205 = .ok (.iconst 0, 1) := by decide +kernel
theorem dX7_does_206 : decode cX7_does 206 = .ok (.ireturn, 1) := by decide +kernel
theorem dX7_does_207 : decode cX7_does 207 = .ok (.aload_n 0, 1) := by decide +kernel
theorem dX7_does_208 : decode cX7_does 208 = .ok (.iload_n 2, 1) := by decide +kernel
theorem dX7_does_209 : decode cX7_does 209 = .ok (.invokevirtual 118, 3) := by decide +kernel
theorem dX7_does_212 : decode cX7_does 212 = .ok (.ireturn, 1) := by decide +kernel
theorem dX7_does_213 : decode cX7_does 213 = .ok (.aload_n 0, 1) := by decide +kernel
theorem dX7_does_214 : decode cX7_does 214 = .ok (.iload_n 2, 1) := by decide +kernel
theorem dX7_does_215 : decode cX7_does 215 = .ok (.iconst 3, 1) := by decide +kernel
theorem dX7_does_216 : decode cX7_does 216 = .ok (.iload_n 3, 1) := by decide +kernel
theorem dX7_does_217 : decode cX7_does 217 = .ok (.invokevirtual 107, 3) := by decide +kernel
theorem dX7_does_220 : decode cX7_does 220 = .ok (.aload_n 0, 1) := by decide +kernel
theorem dX7_does_221 : decode cX7_does 221 = .ok (.iload_n 2, 1) := by decide +kernel
theorem dX7_does_222 : decode cX7_does 222 = .ok (.iload_n 3, 1) := by decide +kernel
theorem dX7_does_223 : decode cX7_does 223 = .ok (.invokevirtual 83, 3) := by decide +kernel
theorem dX7_does_226 : decode cX7_does 226 = .ok (.ireturn, 1) := by decide +kernel
theorem dX7_does_227 : decode cX7_does 227 = .ok (.aload_n 0, 1) := by decide +kernel
theorem dX7_does_228 : decode cX7_does 228 = .ok (.iload_n 2, 1) := by decide +kernel
theorem dX7_does_229 : decode cX7_does 229 = .ok (.iconst 3, 1) := by decide +kernel
theorem dX7_does_230 : decode cX7_does 230 = .ok (.invokevirtual 37, 3) := by decide +kernel
theorem dX7_does_233 : decode cX7_does 233 = .ok (.istore 4, 2) := by decide +kernel
theorem dX7_does_235 : decode cX7_does 235 = .ok (.aload_n 0, 1) := by decide +kernel
theorem dX7_does_236 : decode cX7_does 236 = .ok (.iload_n 2, 1) := by decide +kernel
theorem dX7_does_237 : decode cX7_does 237 = .ok (.iconst 3, 1) := by decide +kernel
theorem dX7_does_238 : decode cX7_does 238 = .ok (.iconst (-1), 1) := by decide +kernel
theorem dX7_does_239 : decode cX7_does 239 = .ok (.invokevirtual 107, 3) := by decide +kernel
theorem dX7_does_242 : decode cX7_does 242 = .ok (.iload 4, 2) := by decide +kernel
theorem dX7_does_244 : decode cX7_does 244 = .ok (.ireturn, 1) := by decide +kernel
theorem dX7_does_245 : decode cX7_does 245 = .ok (.aload_n 0, 1) := by decide +kernel
theorem dX7_does_246 : decode cX7_does 246 = .ok (.iload_n 2, 1) := by decide +kernel
theorem dX7_does_247 : decode cX7_does 247 = .ok (.iconst 3, 1) := by decide +kernel
theorem dX7_does_248 : decode cX7_does 248 = .ok (.aload_n 0, 1) := by decide +kernel
theorem dX7_does_249 : decode cX7_does 249 = .ok (.iload_n 2, 1) := by decide +kernel
theorem dX7_does_250 : decode cX7_does 250 = .ok (.invokevirtual 104, 3) := by decide +kernel
theorem dX7_does_253 : decode cX7_does 253 = .ok (.invokevirtual 107, 3) := by decide +kernel
theorem dX7_does_256 : decode cX7_does 256 = .ok (.aload_n 0, 1) := by decide +kernel
theorem dX7_does_257 : decode cX7_does 257 = .ok (.iload_n 2, 1) := by decide +kernel
theorem dX7_does_258 : decode cX7_does 258 = .ok (.iconst 3, 1) := by decide +kernel
theorem dX7_does_259 : decode cX7_does 259 = .ok (.invokevirtual 37, 3) := by decide +kernel
theorem dX7_does_262 : decode cX7_does 262 = .ok (.ireturn, 1) := by decide +kernel
theorem dX7_does_263 : decode cX7_does 263 = .ok (.aload_n 0, 1) := by decide +kernel
theorem dX7_does_264 : decode cX7_does 264 = .ok (.invokevirtual 121, 3) := by decide +kernel
theorem dX7_does_267 : decode cX7_does 267 = .ok (.ireturn, 1) := by decide +kernel
theorem dX7_does_268 : decode cX7_does 268 = .ok (.aload_n 0, 1) := by decide +kernel
theorem dX7_does_269 : decode cX7_does 269 = .ok (.getfield 7, 3) := by decide +kernel
theorem dX7_does_272 : decode cX7_does 272 = .ok (.iconst 1, 1) := by decide +kernel
theorem dX7_does_273 : decode cX7_does 273 = .ok (.iaload, 1) := by decide +kernel
theorem dX7_does_274 : decode cX7_does 274 = .ok (.istore 4, 2) := by decide +kernel
theorem dX7_does_276 : decode cX7_does 276 = .ok (.aload_n 0, 1) := by decide +kernel
theorem dX7_does_277 : decode cX7_does 277 = .ok (.getfield 7, 3) := by decide +kernel
theorem dX7_does_280 : decode cX7_does 280 = .ok (.iconst 1, 1) := by decide +kernel
theorem dX7_does_281 : decode cX7_does 281 = .ok (.iload_n 2, 1) := by decide +kernel
theorem dX7_does_282 : decode cX7_does 282 = .ok (.iastore, 1) := by decide +kernel
theorem dX7_does_283 : decode cX7_does 283 = .ok (.iload 4, 2) := by decide +kernel
theorem dX7_does_285 : decode cX7_does 285 = .ok (.ireturn, 1) := by decide +kernel
set_option maxRecDepth 20000 in
theorem ggX7_acts_X7_refusal : GoodIn wsX7_acts wsX7_refusal := goodIn_r _ [6, 7, 8, 9, 5, 10, 11, 12, 13, 14, 15, 16, 17, 18, 19, 20, 21, 22, 23, 24, 25, 26, 27, 28, 29, 30, 31, 32, 33, 34, 35, 36, 37, 38, 39, 40, 41, 42, 43, 44, 45, 46, 47, 48, 49, 50, 51, 52, 53, 54, 55, 56, 57, 58, 59, 60, 61, 62, 63, 64, 65, 66, 67, 68, 69, 70, 71, 72, 73, 74, 75, 76, 77, 78, 79, 80, 81, 82, 83, 84, 85, 86, 87, 88, 89, 90, 91, 92, 93, 94, 95, 96, 127, 128, 129, 130, 131, 132, 133, 134, 135, 136, 137, 138, 139] (by decide +kernel) (by decide +kernel)
set_option maxRecDepth 20000 in
theorem gX7_acts_X7_refusal : GoodIn wsX7_acts (wsV RX7 124 RX7 yX7_refusal wsX7_refusal) := goodIn_app (goodIn_of _ (by decide +kernel)) ggX7_acts_X7_refusal
set_option maxRecDepth 20000 in
theorem ggX7_acts_X7_records : GoodIn wsX7_acts wsX7_records := goodIn_r _ [100, 101, 102, 7, 127, 128, 129, 130, 131, 132, 133, 134, 135, 136, 137, 138, 139] (by decide +kernel) (by decide +kernel)
set_option maxRecDepth 20000 in
theorem gX7_acts_X7_records : GoodIn wsX7_acts (wsV RX7 128 RX7 yX7_records wsX7_records) := goodIn_app (goodIn_of _ (by decide +kernel)) ggX7_acts_X7_records
set_option maxRecDepth 20000 in
theorem ggX7_acts_X7_does : GoodIn wsX7_acts wsX7_does := goodIn_r _ [106, 7, 107, 108, 109, 5, 110, 18, 19, 20, 21, 36, 37, 38, 39, 40, 41, 42, 43, 44, 45, 46, 47, 22, 23, 24, 11, 12, 13, 25, 26, 27, 111, 112, 113, 114, 67, 68, 69, 70, 63, 64, 65, 66, 71, 72, 73, 74, 75, 76, 77, 78, 79, 80, 93, 94, 95, 96, 55, 56, 57, 58, 59, 60, 61, 62, 81, 82, 83, 84, 85, 86, 87, 88, 89, 90, 91, 92, 115, 116, 117, 118, 119, 120, 121, 122, 123, 124, 125, 126, 127, 128, 129, 130, 131, 132, 133, 134, 135, 136, 137, 138, 139] (by decide +kernel) (by decide +kernel)
set_option maxRecDepth 20000 in
theorem gX7_acts_X7_does : GoodIn wsX7_acts (wsV RX7 131 RX7 yX7_does wsX7_does) := goodIn_app (goodIn_of _ (by decide +kernel)) ggX7_acts_X7_does
theorem dX7_acts_0 : decode cX7_acts 0 = .ok (.aload_n 0, 1) := by decide +kernel
theorem dX7_acts_1 : decode cX7_acts 1 = .ok (.aload_n 0, 1) := by decide +kernel
theorem dX7_acts_2 : decode cX7_acts 2 = .ok (.iload_n 1, 1) := by decide +kernel
theorem dX7_acts_3 : decode cX7_acts 3 = .ok (.iload_n 2, 1) := by decide +kernel
theorem dX7_acts_4 : decode cX7_acts 4 = .ok (.iload_n 3, 1) := by decide +kernel
theorem dX7_acts_5 : decode cX7_acts 5 = .ok (.invokevirtual 124, 3) := by decide +kernel
theorem dX7_acts_8 : decode cX7_acts 8 = .ok (.putfield 22, 3) := by decide +kernel
theorem dX7_acts_11 : decode cX7_acts 11 = .ok (.aload_n 0, 1) := by decide +kernel
theorem dX7_acts_12 : decode cX7_acts 12 = .ok (.getfield 22, 3) := by decide +kernel
theorem dX7_acts_15 : decode cX7_acts 15 = .ok (.ifCond .le 5, 3) := by decide +kernel
theorem dX7_acts_18 : decode cX7_acts 18 = .ok (.iconst 0, 1) := by decide +kernel
theorem dX7_acts_19 : decode cX7_acts 19 = .ok (.ireturn, 1) := by decide +kernel
theorem dX7_acts_20 : decode cX7_acts 20 = .ok (.aload_n 0, 1) := by decide +kernel
theorem dX7_acts_21 : decode cX7_acts 21 = .ok (.invokevirtual 128, 3) := by decide +kernel
theorem dX7_acts_24 : decode cX7_acts 24 = .ok (.aload_n 0, 1) := by decide +kernel
theorem dX7_acts_25 : decode cX7_acts 25 = .ok (.iload_n 1, 1) := by decide +kernel
theorem dX7_acts_26 : decode cX7_acts 26 = .ok (.iload_n 2, 1) := by decide +kernel
theorem dX7_acts_27 : decode cX7_acts 27 = .ok (.iload_n 3, 1) := by decide +kernel
theorem dX7_acts_28 : decode cX7_acts 28 = .ok (.invokevirtual 131, 3) := by decide +kernel
theorem dX7_acts_31 : decode cX7_acts 31 = .ok (.ireturn, 1) := by decide +kernel
set_option maxRecDepth 20000 in
theorem ggX7_begin_X7_acts : GoodIn wsX7_begin wsX7_acts := goodIn_r _ [5, 6, 7, 8, 9, 4, 10, 11, 12, 13, 14, 15, 16, 17, 18, 19, 20, 21, 22, 23, 24, 25, 26, 27, 28, 29, 30, 31, 32, 33, 34, 35, 36, 37, 38, 39, 40, 41, 42, 43, 44, 45, 46, 47, 48, 49, 50, 51, 52, 53, 54, 55, 56, 57, 58, 59, 60, 61, 62, 63, 64, 65, 66, 67, 68, 69, 70, 71, 72, 73, 74, 75, 76, 77, 78, 79, 80, 81, 82, 83, 84, 85, 86, 87, 88, 89, 90, 91, 92, 93, 94, 95, 96, 97, 98, 99, 100, 101, 102, 103, 104, 105, 106, 107, 108, 109, 110, 111, 112, 113, 114, 115, 116, 117, 118, 119, 120, 121, 122, 123, 124, 125, 126, 127, 128, 129, 130, 131, 132, 133, 134, 135, 136, 137, 138, 139, 140, 141, 142, 143] (by decide +kernel) (by decide +kernel)
set_option maxRecDepth 20000 in
theorem gX7_begin_X7_acts : GoodIn wsX7_begin (wsV RX7 134 RX7 yX7_acts wsX7_acts) := goodIn_app (goodIn_of _ (by decide +kernel)) ggX7_begin_X7_acts
theorem dX7_begin_0 : decode cX7_begin 0 = .ok (.aload_n 0, 1) := by decide +kernel
theorem dX7_begin_1 : decode cX7_begin 1 = .ok (.bipush 110, 2) := by decide +kernel
theorem dX7_begin_3 : decode cX7_begin 3 = .ok (.iload_n 1, 1) := by decide +kernel
theorem dX7_begin_4 : decode cX7_begin 4 = .ok (.iload_n 2, 1) := by decide +kernel
theorem dX7_begin_5 : decode cX7_begin 5 = .ok (.invokevirtual 134, 3) := by decide +kernel
theorem dX7_begin_8 : decode cX7_begin 8 = .ok (.ireturn, 1) := by decide +kernel
set_option maxRecDepth 20000 in
theorem ggX7_step_X7_acts : GoodIn wsX7_step wsX7_acts := goodIn_r _ [5, 6, 7, 8, 9, 4, 10, 11, 12, 13, 14, 15, 16, 17, 18, 19, 20, 21, 22, 23, 24, 25, 26, 27, 28, 29, 30, 31, 32, 33, 34, 35, 36, 37, 38, 39, 40, 41, 42, 43, 44, 45, 46, 47, 48, 49, 50, 51, 52, 53, 54, 55, 56, 57, 58, 59, 60, 61, 62, 63, 64, 65, 66, 67, 68, 69, 70, 71, 72, 73, 74, 75, 76, 77, 78, 79, 80, 81, 82, 83, 84, 85, 86, 87, 88, 89, 90, 91, 92, 93, 94, 95, 96, 97, 98, 99, 100, 101, 102, 103, 104, 105, 106, 107, 108, 109, 110, 111, 112, 113, 114, 115, 116, 117, 118, 119, 120, 121, 122, 123, 124, 125, 126, 127, 128, 129, 130, 131, 132, 133, 134, 135, 136, 137, 138, 139, 140, 141, 142, 143] (by decide +kernel) (by decide +kernel)
set_option maxRecDepth 20000 in
theorem gX7_step_X7_acts : GoodIn wsX7_step (wsV RX7 134 RX7 yX7_acts wsX7_acts) := goodIn_app (goodIn_of _ (by decide +kernel)) ggX7_step_X7_acts
theorem dX7_step_0 : decode cX7_step 0 = .ok (.aload_n 0, 1) := by decide +kernel
theorem dX7_step_1 : decode cX7_step 1 = .ok (.bipush 115, 2) := by decide +kernel
theorem dX7_step_3 : decode cX7_step 3 = .ok (.iload_n 1, 1) := by decide +kernel
theorem dX7_step_4 : decode cX7_step 4 = .ok (.iload_n 2, 1) := by decide +kernel
theorem dX7_step_5 : decode cX7_step 5 = .ok (.invokevirtual 134, 3) := by decide +kernel
theorem dX7_step_8 : decode cX7_step 8 = .ok (.iconst 1, 1) := by decide +kernel
theorem dX7_step_9 : decode cX7_step 9 = .ok (.if_icmp .ne 7, 3) := by decide +kernel
theorem dX7_step_12 : decode cX7_step 12 = .ok (.iconst 1, 1) := by decide +kernel
theorem dX7_step_13 : decode cX7_step 13 = .ok (.goto 4, 3) := by decide +kernel
theorem dX7_step_16 : decode cX7_step 16 = .ok (.iconst 0, 1) := by decide +kernel
theorem dX7_step_17 : decode cX7_step 17 = .ok (.ireturn, 1) := by decide +kernel
set_option maxRecDepth 20000 in
theorem ggX7_wipe_X7_acts : GoodIn wsX7_wipe wsX7_acts := goodIn_r _ [5, 6, 7, 8, 9, 4, 10, 11, 12, 13, 14, 15, 16, 17, 18, 19, 20, 21, 22, 23, 24, 25, 26, 27, 28, 29, 30, 31, 32, 33, 34, 35, 36, 37, 38, 39, 40, 41, 42, 43, 44, 45, 46, 47, 48, 49, 50, 51, 52, 53, 54, 55, 56, 57, 58, 59, 60, 61, 62, 63, 64, 65, 66, 67, 68, 69, 70, 71, 72, 73, 74, 75, 76, 77, 78, 79, 80, 81, 82, 83, 84, 85, 86, 87, 88, 89, 90, 91, 92, 93, 94, 95, 96, 97, 98, 99, 100, 101, 102, 103, 104, 105, 106, 107, 108, 109, 110, 111, 112, 113, 114, 115, 116, 117, 118, 119, 120, 121, 122, 123, 124, 125, 126, 127, 128, 129, 130, 131, 132, 133, 134, 135, 136, 137, 138, 139, 140, 141, 142, 143] (by decide +kernel) (by decide +kernel)
set_option maxRecDepth 20000 in
theorem gX7_wipe_X7_acts : GoodIn wsX7_wipe (wsV RX7 134 RX7 yX7_acts wsX7_acts) := goodIn_app (goodIn_of _ (by decide +kernel)) ggX7_wipe_X7_acts
theorem dX7_wipe_0 : decode cX7_wipe 0 = .ok (.aload_n 0, 1) := by decide +kernel
theorem dX7_wipe_1 : decode cX7_wipe 1 = .ok (.bipush 119, 2) := by decide +kernel
theorem dX7_wipe_3 : decode cX7_wipe 3 = .ok (.iload_n 1, 1) := by decide +kernel
theorem dX7_wipe_4 : decode cX7_wipe 4 = .ok (.iconst 0, 1) := by decide +kernel
theorem dX7_wipe_5 : decode cX7_wipe 5 = .ok (.invokevirtual 134, 3) := by decide +kernel
theorem dX7_wipe_8 : decode cX7_wipe 8 = .ok (.ireturn, 1) := by decide +kernel
set_option maxRecDepth 20000 in
theorem ggX7_setLevel_X7_isLine : GoodIn wsX7_setLevel wsX7_isLine := goodIn_r _ [6, 7, 8, 9, 5, 10, 25, 26, 27, 28, 29, 30, 31, 32, 33, 34, 35, 36, 37] (by decide +kernel) (by decide +kernel)
set_option maxRecDepth 20000 in
theorem gX7_setLevel_X7_isLine : GoodIn wsX7_setLevel (wsV RX7 98 RX7 yX7_isLine wsX7_isLine) := goodIn_app (goodIn_of _ (by decide +kernel)) ggX7_setLevel_X7_isLine
set_option maxRecDepth 20000 in
theorem ggX7_setLevel_X7_in : GoodIn wsX7_setLevel wsX7_in := goodIn_r _ [10] (by decide +kernel) (by decide +kernel)
set_option maxRecDepth 20000 in
theorem gX7_setLevel_X7_in : GoodIn wsX7_setLevel (va_wsS RX7 26 yX7_in wsX7_in) := goodIn_app (goodIn_of _ (by decide +kernel)) ggX7_setLevel_X7_in
set_option maxRecDepth 20000 in
theorem ggX7_setLevel_X7_records : GoodIn wsX7_setLevel wsX7_records := goodIn_r _ [14, 15, 16, 7, 25, 26, 27, 28, 29, 30, 31, 32, 33, 34, 35, 36, 37] (by decide +kernel) (by decide +kernel)
set_option maxRecDepth 20000 in
theorem gX7_setLevel_X7_records : GoodIn wsX7_setLevel (wsV RX7 128 RX7 yX7_records wsX7_records) := goodIn_app (goodIn_of _ (by decide +kernel)) ggX7_setLevel_X7_records
set_option maxRecDepth 20000 in
theorem ggX7_setLevel_X7_of : GoodIn wsX7_setLevel wsX7_of := goodIn_r _ [20, 7, 25, 26, 27, 28, 29, 30, 31, 32, 33, 34, 35, 36, 37] (by decide +kernel) (by decide +kernel)
set_option maxRecDepth 20000 in
theorem gX7_setLevel_X7_of : GoodIn wsX7_setLevel (wsV RX7 37 RX7 yX7_of wsX7_of) := goodIn_app (goodIn_of _ (by decide +kernel)) ggX7_setLevel_X7_of
set_option maxRecDepth 20000 in
theorem ggX7_setLevel_X7_puts : GoodIn wsX7_setLevel wsX7_puts := goodIn_r _ [24, 7, 25, 26, 27, 28, 29, 30, 31, 32, 33, 34, 35, 36, 37] (by decide +kernel) (by decide +kernel)
set_option maxRecDepth 20000 in
theorem gX7_setLevel_X7_puts : GoodIn wsX7_setLevel (wsV RX7 107 RX7 yX7_puts wsX7_puts) := goodIn_app (goodIn_of _ (by decide +kernel)) ggX7_setLevel_X7_puts
theorem dX7_setLevel_0 : decode cX7_setLevel 0 = .ok (.aload_n 0, 1) := by decide +kernel
theorem dX7_setLevel_1 : decode cX7_setLevel 1 = .ok (.aload_n 0, 1) := by decide +kernel
theorem dX7_setLevel_2 : decode cX7_setLevel 2 = .ok (.iload_n 1, 1) := by decide +kernel
theorem dX7_setLevel_3 : decode cX7_setLevel 3 = .ok (.invokevirtual 98, 3) := by decide +kernel
theorem dX7_setLevel_6 : decode cX7_setLevel 6 = .ok (.ifCond .ne 7, 3) := by decide +kernel
theorem dX7_setLevel_9 : decode cX7_setLevel 9 = .ok (.iconst 1, 1) := by decide +kernel
theorem dX7_setLevel_10 : decode cX7_setLevel 10 = .ok (.goto 18, 3) := by decide +kernel
theorem dX7_setLevel_13 : decode cX7_setLevel 13 = .ok (.iload_n 2, 1) := by decide +kernel
theorem dX7_setLevel_14 : decode cX7_setLevel 14 = .ok (.iconst 0, 1) := by decide +kernel
theorem dX7_setLevel_15 : decode cX7_setLevel 15 = .ok (.bipush 99, 2) := by decide +kernel
theorem dX7_setLevel_17 : decode cX7_setLevel 17 = .ok (.invokestatic 26, 3) := by decide +kernel
theorem dX7_setLevel_20 : decode cX7_setLevel 20 = .ok (.ifCond .ne 7, 3) := by decide +kernel
theorem dX7_setLevel_23 : decode cX7_setLevel 23 = .ok (.iconst 2, 1) := by decide +kernel
theorem dX7_setLevel_24 : decode cX7_setLevel 24 = .ok (.goto 4, 3) := by decide +kernel
theorem dX7_setLevel_27 : decode cX7_setLevel 27 = .ok (.iconst 0, 1) := by decide +kernel
theorem dX7_setLevel_28 : decode cX7_setLevel 28 = .ok (.putfield 22, 3) := by decide +kernel
theorem dX7_setLevel_31 : decode cX7_setLevel 31 = .ok (.aload_n 0, 1) := by decide +kernel
theorem dX7_setLevel_32 : decode cX7_setLevel 32 = .ok (.getfield 22, 3) := by decide +kernel
theorem dX7_setLevel_35 : decode cX7_setLevel 35 = .ok (.ifCond .le 5, 3) := by decide +kernel
theorem dX7_setLevel_38 : decode cX7_setLevel 38 = .ok (.iconst 0, 1) := by decide +kernel
theorem dX7_setLevel_39 : decode cX7_setLevel 39 = .ok (.ireturn, 1) := by decide +kernel
theorem dX7_setLevel_40 : decode cX7_setLevel 40 = .ok (.aload_n 0, 1) := by decide +kernel
theorem dX7_setLevel_41 : decode cX7_setLevel 41 = .ok (.invokevirtual 128, 3) := by decide +kernel
theorem dX7_setLevel_44 : decode cX7_setLevel 44 = .ok (.aload_n 0, 1) := by decide +kernel
theorem dX7_setLevel_45 : decode cX7_setLevel 45 = .ok (.iload_n 1, 1) := by decide +kernel
theorem dX7_setLevel_46 : decode cX7_setLevel 46 = .ok (.iconst 0, 1) := by decide +kernel
theorem dX7_setLevel_47 : decode cX7_setLevel 47 = .ok (.invokevirtual 37, 3) := by decide +kernel
theorem dX7_setLevel_50 : decode cX7_setLevel 50 = .ok (.istore_n 3, 1) := by decide +kernel
theorem dX7_setLevel_51 : decode cX7_setLevel 51 = .ok (.aload_n 0, 1) := by decide +kernel
theorem dX7_setLevel_52 : decode cX7_setLevel 52 = .ok (.iload_n 1, 1) := by decide +kernel
theorem dX7_setLevel_53 : decode cX7_setLevel 53 = .ok (.iconst 0, 1) := by decide +kernel
theorem dX7_setLevel_54 : decode cX7_setLevel 54 = .ok (.iload_n 2, 1) := by decide +kernel
theorem dX7_setLevel_55 : decode cX7_setLevel 55 = .ok (.invokevirtual 107, 3) := by decide +kernel
theorem dX7_setLevel_58 : decode cX7_setLevel 58 = .ok (.aload_n 0, 1) := by decide +kernel
theorem dX7_setLevel_59 : decode cX7_setLevel 59 = .ok (.iload_n 1, 1) := by decide +kernel
theorem dX7_setLevel_60 : decode cX7_setLevel 60 = .ok (.iconst 3, 1) := by decide +kernel
theorem dX7_setLevel_61 : decode cX7_setLevel 61 = .ok (.iconst (-1), 1) := by decide +kernel
theorem dX7_setLevel_62 : decode cX7_setLevel 62 = .ok (.invokevirtual 107, 3) := by decide +kernel
theorem dX7_setLevel_65 : decode cX7_setLevel 65 = .ok (.iload_n 3, 1) := by decide +kernel
theorem dX7_setLevel_66 : decode cX7_setLevel 66 = .ok (.ireturn, 1) := by decide +kernel
set_option maxRecDepth 20000 in
theorem ggX7_label_X7_acts : GoodIn wsX7_label wsX7_acts := goodIn_r _ [5, 6, 7, 8, 9, 4, 10, 11, 12, 13, 14, 15, 16, 17, 18, 19, 20, 21, 22, 23, 24, 25, 26, 27, 28, 29, 30, 31, 32, 33, 34, 35, 36, 37, 38, 39, 40, 41, 42, 43, 44, 45, 46, 47, 48, 49, 50, 51, 52, 53, 54, 55, 56, 57, 58, 59, 60, 61, 62, 63, 64, 65, 66, 67, 68, 69, 70, 71, 72, 73, 74, 75, 76, 77, 78, 79, 80, 81, 82, 83, 84, 85, 86, 87, 88, 89, 90, 91, 92, 93, 94, 95, 96, 97, 98, 99, 100, 101, 102, 103, 104, 105, 106, 107, 108, 109, 110, 111, 112, 113, 114, 115, 116, 117, 118, 119, 120, 121, 122, 123, 124, 125, 126, 127, 128, 129, 130, 131, 132, 133, 134, 135, 136, 137, 138, 139, 140, 141, 142, 143] (by decide +kernel) (by decide +kernel)
set_option maxRecDepth 20000 in
theorem gX7_label_X7_acts : GoodIn wsX7_label (wsV RX7 134 RX7 yX7_acts wsX7_acts) := goodIn_app (goodIn_of _ (by decide +kernel)) ggX7_label_X7_acts
theorem dX7_label_0 : decode cX7_label 0 = .ok (.aload_n 0, 1) := by decide +kernel
theorem dX7_label_1 : decode cX7_label 1 = .ok (.bipush 108, 2) := by decide +kernel
theorem dX7_label_3 : decode cX7_label 3 = .ok (.iload_n 1, 1) := by decide +kernel
theorem dX7_label_4 : decode cX7_label 4 = .ok (.iload_n 2, 1) := by decide +kernel
theorem dX7_label_5 : decode cX7_label 5 = .ok (.invokevirtual 134, 3) := by decide +kernel
theorem dX7_label_8 : decode cX7_label 8 = .ok (.ireturn, 1) := by decide +kernel
set_option maxRecDepth 20000 in
theorem ggX7_unlabel_X7_acts : GoodIn wsX7_unlabel wsX7_acts := goodIn_r _ [5, 6, 7, 8, 9, 4, 10, 11, 12, 13, 14, 15, 16, 17, 18, 19, 20, 21, 22, 23, 24, 25, 26, 27, 28, 29, 30, 31, 32, 33, 34, 35, 36, 37, 38, 39, 40, 41, 42, 43, 44, 45, 46, 47, 48, 49, 50, 51, 52, 53, 54, 55, 56, 57, 58, 59, 60, 61, 62, 63, 64, 65, 66, 67, 68, 69, 70, 71, 72, 73, 74, 75, 76, 77, 78, 79, 80, 81, 82, 83, 84, 85, 86, 87, 88, 89, 90, 91, 92, 93, 94, 95, 96, 97, 98, 99, 100, 101, 102, 103, 104, 105, 106, 107, 108, 109, 110, 111, 112, 113, 114, 115, 116, 117, 118, 119, 120, 121, 122, 123, 124, 125, 126, 127, 128, 129, 130, 131, 132, 133, 134, 135, 136, 137, 138, 139, 140, 141, 142, 143] (by decide +kernel) (by decide +kernel)
set_option maxRecDepth 20000 in
theorem gX7_unlabel_X7_acts : GoodIn wsX7_unlabel (wsV RX7 134 RX7 yX7_acts wsX7_acts) := goodIn_app (goodIn_of _ (by decide +kernel)) ggX7_unlabel_X7_acts
theorem dX7_unlabel_0 : decode cX7_unlabel 0 = .ok (.aload_n 0, 1) := by decide +kernel
theorem dX7_unlabel_1 : decode cX7_unlabel 1 = .ok (.bipush 117, 2) := by decide +kernel
theorem dX7_unlabel_3 : decode cX7_unlabel 3 = .ok (.iload_n 1, 1) := by decide +kernel
theorem dX7_unlabel_4 : decode cX7_unlabel 4 = .ok (.iconst 0, 1) := by decide +kernel
theorem dX7_unlabel_5 : decode cX7_unlabel 5 = .ok (.invokevirtual 134, 3) := by decide +kernel
theorem dX7_unlabel_8 : decode cX7_unlabel 8 = .ok (.ireturn, 1) := by decide +kernel
set_option maxRecDepth 20000 in
theorem ggX7_labelBest_X7_acts : GoodIn wsX7_labelBest wsX7_acts := goodIn_r _ [5, 6, 7, 8, 9, 4, 10, 11, 12, 13, 14, 15, 16, 17, 18, 19, 20, 21, 22, 23, 24, 25, 26, 27, 28, 29, 30, 31, 32, 33, 34, 35, 36, 37, 38, 39, 40, 41, 42, 43, 44, 45, 46, 47, 48, 49, 50, 51, 52, 53, 54, 55, 56, 57, 58, 59, 60, 61, 62, 63, 64, 65, 66, 67, 68, 69, 70, 71, 72, 73, 74, 75, 76, 77, 78, 79, 80, 81, 82, 83, 84, 85, 86, 87, 88, 89, 90, 91, 92, 93, 94, 95, 96, 97, 98, 99, 100, 101, 102, 103, 104, 105, 106, 107, 108, 109, 110, 111, 112, 113, 114, 115, 116, 117, 118, 119, 120, 121, 122, 123, 124, 125, 126, 127, 128, 129, 130, 131, 132, 133, 134, 135, 136, 137, 138, 139, 140, 141, 142, 143] (by decide +kernel) (by decide +kernel)
set_option maxRecDepth 20000 in
theorem gX7_labelBest_X7_acts : GoodIn wsX7_labelBest (wsV RX7 134 RX7 yX7_acts wsX7_acts) := goodIn_app (goodIn_of _ (by decide +kernel)) ggX7_labelBest_X7_acts
theorem dX7_labelBest_0 : decode cX7_labelBest 0 = .ok (.aload_n 0, 1) := by decide +kernel
theorem dX7_labelBest_1 : decode cX7_labelBest 1 = .ok (.bipush 98, 2) := by decide +kernel
theorem dX7_labelBest_3 : decode cX7_labelBest 3 = .ok (.iload_n 1, 1) := by decide +kernel
theorem dX7_labelBest_4 : decode cX7_labelBest 4 = .ok (.iconst 0, 1) := by decide +kernel
theorem dX7_labelBest_5 : decode cX7_labelBest 5 = .ok (.invokevirtual 134, 3) := by decide +kernel
theorem dX7_labelBest_8 : decode cX7_labelBest 8 = .ok (.ireturn, 1) := by decide +kernel
set_option maxRecDepth 20000 in
theorem ggX7_labelAll_X7_acts : GoodIn wsX7_labelAll wsX7_acts := goodIn_r _ [5, 6, 7, 8, 9, 4, 10, 11, 12, 13, 14, 15, 16, 17, 18, 19, 20, 21, 22, 23, 24, 25, 26, 27, 28, 29, 30, 31, 32, 33, 34, 35, 36, 37, 38, 39, 40, 41, 42, 43, 44, 45, 46, 47, 48, 49, 50, 51, 52, 53, 54, 55, 56, 57, 58, 59, 60, 61, 62, 63, 64, 65, 66, 67, 68, 69, 70, 71, 72, 73, 74, 75, 76, 77, 78, 79, 80, 81, 82, 83, 84, 85, 86, 87, 88, 89, 90, 91, 92, 93, 94, 95, 96, 97, 98, 99, 100, 101, 102, 103, 104, 105, 106, 107, 108, 109, 110, 111, 112, 113, 114, 115, 116, 117, 118, 119, 120, 121, 122, 123, 124, 125, 126, 127, 128, 129, 130, 131, 132, 133, 134, 135, 136, 137, 138, 139, 140, 141, 142, 143] (by decide +kernel) (by decide +kernel)
set_option maxRecDepth 20000 in
theorem gX7_labelAll_X7_acts : GoodIn wsX7_labelAll (wsV RX7 134 RX7 yX7_acts wsX7_acts) := goodIn_app (goodIn_of _ (by decide +kernel)) ggX7_labelAll_X7_acts
theorem dX7_labelAll_0 : decode cX7_labelAll 0 = .ok (.aload_n 0, 1) := by decide +kernel
theorem dX7_labelAll_1 : decode cX7_labelAll 1 = .ok (.bipush 97, 2) := by decide +kernel
theorem dX7_labelAll_3 : decode cX7_labelAll 3 = .ok (.iconst 0, 1) := by decide +kernel
theorem dX7_labelAll_4 : decode cX7_labelAll 4 = .ok (.iconst 0, 1) := by decide +kernel
theorem dX7_labelAll_5 : decode cX7_labelAll 5 = .ok (.invokevirtual 134, 3) := by decide +kernel
theorem dX7_labelAll_8 : decode cX7_labelAll 8 = .ok (.ireturn, 1) := by decide +kernel
set_option maxRecDepth 20000 in
theorem ggX7_setGap_X7_acts : GoodIn wsX7_setGap wsX7_acts := goodIn_r _ [5, 6, 7, 8, 9, 4, 10, 11, 12, 13, 14, 15, 16, 17, 18, 19, 20, 21, 22, 23, 24, 25, 26, 27, 28, 29, 30, 31, 32, 33, 34, 35, 36, 37, 38, 39, 40, 41, 42, 43, 44, 45, 46, 47, 48, 49, 50, 51, 52, 53, 54, 55, 56, 57, 58, 59, 60, 61, 62, 63, 64, 65, 66, 67, 68, 69, 70, 71, 72, 73, 74, 75, 76, 77, 78, 79, 80, 81, 82, 83, 84, 85, 86, 87, 88, 89, 90, 91, 92, 93, 94, 95, 96, 97, 98, 99, 100, 101, 102, 103, 104, 105, 106, 107, 108, 109, 110, 111, 112, 113, 114, 115, 116, 117, 118, 119, 120, 121, 122, 123, 124, 125, 126, 127, 128, 129, 130, 131, 132, 133, 134, 135, 136, 137, 138, 139, 140, 141, 142, 143] (by decide +kernel) (by decide +kernel)
set_option maxRecDepth 20000 in
theorem gX7_setGap_X7_acts : GoodIn wsX7_setGap (wsV RX7 134 RX7 yX7_acts wsX7_acts) := goodIn_app (goodIn_of _ (by decide +kernel)) ggX7_setGap_X7_acts
theorem dX7_setGap_0 : decode cX7_setGap 0 = .ok (.aload_n 0, 1) := by decide +kernel
theorem dX7_setGap_1 : decode cX7_setGap 1 = .ok (.bipush 103, 2) := by decide +kernel
theorem dX7_setGap_3 : decode cX7_setGap 3 = .ok (.iload_n 1, 1) := by decide +kernel
theorem dX7_setGap_4 : decode cX7_setGap 4 = .ok (.iconst 0, 1) := by decide +kernel
theorem dX7_setGap_5 : decode cX7_setGap 5 = .ok (.invokevirtual 134, 3) := by decide +kernel
theorem dX7_setGap_8 : decode cX7_setGap 8 = .ok (.ireturn, 1) := by decide +kernel
set_option maxRecDepth 20000 in
theorem ggX7_look_X7_isLine : GoodIn wsX7_look wsX7_isLine := goodIn_r _ [6, 7, 8, 9, 5, 10, 19, 20, 21, 22, 23, 24, 25, 26, 27, 28, 29, 30, 31] (by decide +kernel) (by decide +kernel)
set_option maxRecDepth 20000 in
theorem gX7_look_X7_isLine : GoodIn wsX7_look (wsV RX7 98 RX7 yX7_isLine wsX7_isLine) := goodIn_app (goodIn_of _ (by decide +kernel)) ggX7_look_X7_isLine
set_option maxRecDepth 20000 in
theorem ggX7_look_X7_of : GoodIn wsX7_look wsX7_of := goodIn_r _ [14, 7, 19, 20, 21, 22, 23, 24, 25, 26, 27, 28, 29, 30, 31] (by decide +kernel) (by decide +kernel)
set_option maxRecDepth 20000 in
theorem gX7_look_X7_of : GoodIn wsX7_look (wsV RX7 37 RX7 yX7_of wsX7_of) := goodIn_app (goodIn_of _ (by decide +kernel)) ggX7_look_X7_of
set_option maxRecDepth 20000 in
theorem ggX7_look_X7_fails : GoodIn wsX7_look wsX7_fails := goodIn_r _ [18, 1, 19, 20, 21, 22, 23, 24, 25, 26, 27, 28, 29, 30, 31] (by decide +kernel) (by decide +kernel)
set_option maxRecDepth 20000 in
theorem gX7_look_X7_fails : GoodIn wsX7_look (wsV RX7 137 RX7 yX7_fails wsX7_fails) := goodIn_app (goodIn_of _ (by decide +kernel)) ggX7_look_X7_fails
theorem dX7_look_0 : decode cX7_look 0 = .ok (.aload_n 0, 1) := by decide +kernel
theorem dX7_look_1 : decode cX7_look 1 = .ok (.iconst 0, 1) := by decide +kernel
theorem dX7_look_2 : decode cX7_look 2 = .ok (.putfield 22, 3) := by decide +kernel
theorem dX7_look_5 : decode cX7_look 5 = .ok (.aload_n 0, 1) := by decide +kernel
theorem dX7_look_6 : decode cX7_look 6 = .ok (.iload_n 1, 1) := by decide +kernel
theorem dX7_look_7 : decode cX7_look 7 = .ok (.invokevirtual 98, 3) := by decide +kernel
theorem dX7_look_10 : decode cX7_look 10 = .ok (.ifCond .eq 12, 3) := by decide +kernel
theorem dX7_look_13 : decode cX7_look 13 = .ok (.aload_n 0, 1) := by decide +kernel
theorem dX7_look_14 : decode cX7_look 14 = .ok (.iload_n 1, 1) := by decide +kernel
theorem dX7_look_15 : decode cX7_look 15 = .ok (.iload_n 2, 1) := by decide +kernel
theorem dX7_look_16 : decode cX7_look 16 = .ok (.invokevirtual 37, 3) := by decide +kernel
theorem dX7_look_19 : decode cX7_look 19 = .ok (.goto 8, 3) := by decide +kernel
theorem dX7_look_22 : decode cX7_look 22 = .ok (.aload_n 0, 1) := by decide +kernel
theorem dX7_look_23 : decode cX7_look 23 = .ok (.iconst 1, 1) := by decide +kernel
theorem dX7_look_24 : decode cX7_look 24 = .ok (.invokevirtual 137, 3) := by decide +kernel
theorem dX7_look_27 : decode cX7_look 27 = .ok (.ireturn, 1) := by decide +kernel
set_option maxRecDepth 20000 in
theorem ggX7_has_X7_isLine : GoodIn wsX7_has wsX7_isLine := goodIn_r _ [6, 7, 8, 9, 5, 10, 15, 16, 17, 18, 19, 20, 21, 22, 23, 24, 25, 26, 27] (by decide +kernel) (by decide +kernel)
set_option maxRecDepth 20000 in
theorem gX7_has_X7_isLine : GoodIn wsX7_has (wsV RX7 98 RX7 yX7_isLine wsX7_isLine) := goodIn_app (goodIn_of _ (by decide +kernel)) ggX7_has_X7_isLine
set_option maxRecDepth 20000 in
theorem ggX7_has_X7_of : GoodIn wsX7_has wsX7_of := goodIn_r _ [14, 7, 15, 16, 17, 18, 19, 20, 21, 22, 23, 24, 25, 26, 27] (by decide +kernel) (by decide +kernel)
set_option maxRecDepth 20000 in
theorem gX7_has_X7_of : GoodIn wsX7_has (wsV RX7 37 RX7 yX7_of wsX7_of) := goodIn_app (goodIn_of _ (by decide +kernel)) ggX7_has_X7_of
set_option maxRecDepth 20000 in
theorem ggX7_has_X7_in : GoodIn wsX7_has wsX7_in := goodIn_r _ [10] (by decide +kernel) (by decide +kernel)
set_option maxRecDepth 20000 in
theorem gX7_has_X7_in : GoodIn wsX7_has (va_wsS RX7 26 yX7_in wsX7_in) := goodIn_app (goodIn_of _ (by decide +kernel)) ggX7_has_X7_in
theorem dX7_has_0 : decode cX7_has 0 = .ok (.aload_n 0, 1) := by decide +kernel
theorem dX7_has_1 : decode cX7_has 1 = .ok (.aload_n 0, 1) := by decide +kernel
theorem dX7_has_2 : decode cX7_has 2 = .ok (.iload_n 1, 1) := by decide +kernel
theorem dX7_has_3 : decode cX7_has 3 = .ok (.invokevirtual 98, 3) := by decide +kernel
theorem dX7_has_6 : decode cX7_has 6 = .ok (.ifCond .eq 21, 3) := by decide +kernel
theorem dX7_has_9 : decode cX7_has 9 = .ok (.iload_n 2, 1) := by decide +kernel
theorem dX7_has_10 : decode cX7_has 10 = .ok (.iconst 0, 1) := by decide +kernel
theorem dX7_has_11 : decode cX7_has 11 = .ok (.aload_n 0, 1) := by decide +kernel
theorem dX7_has_12 : decode cX7_has 12 = .ok (.iload_n 1, 1) := by decide +kernel
theorem dX7_has_13 : decode cX7_has 13 = .ok (.iconst 2, 1) := by decide +kernel
theorem dX7_has_14 : decode cX7_has 14 = .ok (.invokevirtual 37, 3) := by decide +kernel
theorem dX7_has_17 : decode cX7_has 17 = .ok (.invokestatic 26, 3) := by decide +kernel
theorem dX7_has_20 : decode cX7_has 20 = .ok (.ifCond .eq 7, 3) := by decide +kernel
theorem dX7_has_23 : decode cX7_has 23 = .ok (.iconst 0, 1) := by decide +kernel
theorem dX7_has_24 : decode cX7_has 24 = .ok (.goto 4, 3) := by decide +kernel
theorem dX7_has_27 : decode cX7_has 27 = .ok (.iconst 1, 1) := by decide +kernel
theorem dX7_has_28 : decode cX7_has 28 = .ok (.putfield 22, 3) := by decide +kernel
theorem dX7_has_31 : decode cX7_has 31 = .ok (.aload_n 0, 1) := by decide +kernel
theorem dX7_has_32 : decode cX7_has 32 = .ok (.getfield 22, 3) := by decide +kernel
theorem dX7_has_35 : decode cX7_has 35 = .ok (.ifCond .ne 7, 3) := by decide +kernel
theorem dX7_has_38 : decode cX7_has 38 = .ok (.iconst 1, 1) := by decide +kernel
theorem dX7_has_39 : decode cX7_has 39 = .ok (.goto 4, 3) := by decide +kernel
theorem dX7_has_42 : decode cX7_has 42 = .ok (.iconst 0, 1) := by decide +kernel
theorem dX7_has_43 : decode cX7_has 43 = .ok (.ireturn, 1) := by decide +kernel
set_option maxRecDepth 20000 in
theorem ggX7_knows_X7_isLine : GoodIn wsX7_knows wsX7_isLine := goodIn_r _ [6, 7, 8, 9, 5, 10, 11, 12, 13, 14, 15, 16, 17, 18, 19, 20, 21, 22, 23] (by decide +kernel) (by decide +kernel)
set_option maxRecDepth 20000 in
theorem gX7_knows_X7_isLine : GoodIn wsX7_knows (wsV RX7 98 RX7 yX7_isLine wsX7_isLine) := goodIn_app (goodIn_of _ (by decide +kernel)) ggX7_knows_X7_isLine
theorem dX7_knows_0 : decode cX7_knows 0 = .ok (.aload_n 0, 1) := by decide +kernel
theorem dX7_knows_1 : decode cX7_knows 1 = .ok (.aload_n 0, 1) := by decide +kernel
theorem dX7_knows_2 : decode cX7_knows 2 = .ok (.iload_n 1, 1) := by decide +kernel
theorem dX7_knows_3 : decode cX7_knows 3 = .ok (.invokevirtual 98, 3) := by decide +kernel
theorem dX7_knows_6 : decode cX7_knows 6 = .ok (.ifCond .eq 7, 3) := by decide +kernel
theorem dX7_knows_9 : decode cX7_knows 9 = .ok (.iconst 0, 1) := by decide +kernel
theorem dX7_knows_10 : decode cX7_knows 10 = .ok (.goto 4, 3) := by decide +kernel
theorem dX7_knows_13 : decode cX7_knows 13 = .ok (.iconst 1, 1) := by decide +kernel
theorem dX7_knows_14 : decode cX7_knows 14 = .ok (.putfield 22, 3) := by decide +kernel
theorem dX7_knows_17 : decode cX7_knows 17 = .ok (.aload_n 0, 1) := by decide +kernel
theorem dX7_knows_18 : decode cX7_knows 18 = .ok (.getfield 22, 3) := by decide +kernel
theorem dX7_knows_21 : decode cX7_knows 21 = .ok (.ifCond .ne 7, 3) := by decide +kernel
theorem dX7_knows_24 : decode cX7_knows 24 = .ok (.iconst 1, 1) := by decide +kernel
theorem dX7_knows_25 : decode cX7_knows 25 = .ok (.goto 4, 3) := by decide +kernel
theorem dX7_knows_28 : decode cX7_knows 28 = .ok (.iconst 0, 1) := by decide +kernel
theorem dX7_knows_29 : decode cX7_knows 29 = .ok (.ireturn, 1) := by decide +kernel
theorem dX7_lines_0 : decode cX7_lines 0 = .ok (.aload_n 0, 1) := by decide +kernel
theorem dX7_lines_1 : decode cX7_lines 1 = .ok (.iconst 0, 1) := by decide +kernel
theorem dX7_lines_2 : decode cX7_lines 2 = .ok (.putfield 22, 3) := by decide +kernel
theorem dX7_lines_5 : decode cX7_lines 5 = .ok (.aload_n 0, 1) := by decide +kernel
theorem dX7_lines_6 : decode cX7_lines 6 = .ok (.getfield 7, 3) := by decide +kernel
theorem dX7_lines_9 : decode cX7_lines 9 = .ok (.iconst 0, 1) := by decide +kernel
theorem dX7_lines_10 : decode cX7_lines 10 = .ok (.iaload, 1) := by decide +kernel
theorem dX7_lines_11 : decode cX7_lines 11 = .ok (.ireturn, 1) := by decide +kernel
set_option maxRecDepth 20000 in
theorem ggX7_levelOf_X7_look : GoodIn wsX7_levelOf wsX7_look := goodIn_r _ [5, 6, 7, 8, 9, 4, 10, 11, 12, 13, 14, 15, 16, 17, 18, 19, 20, 21, 22, 23, 24, 25, 26, 27, 28, 29, 30, 31, 32, 33, 34, 35] (by decide +kernel) (by decide +kernel)
set_option maxRecDepth 20000 in
theorem gX7_levelOf_X7_look : GoodIn wsX7_levelOf (wsV RX7 140 RX7 yX7_look wsX7_look) := goodIn_app (goodIn_of _ (by decide +kernel)) ggX7_levelOf_X7_look
theorem dX7_levelOf_0 : decode cX7_levelOf 0 = .ok (.aload_n 0, 1) := by decide +kernel
theorem dX7_levelOf_1 : decode cX7_levelOf 1 = .ok (.iload_n 1, 1) := by decide +kernel
theorem dX7_levelOf_2 : decode cX7_levelOf 2 = .ok (.iconst 0, 1) := by decide +kernel
theorem dX7_levelOf_3 : decode cX7_levelOf 3 = .ok (.invokevirtual 140, 3) := by decide +kernel
theorem dX7_levelOf_6 : decode cX7_levelOf 6 = .ok (.ireturn, 1) := by decide +kernel
set_option maxRecDepth 20000 in
theorem ggX7_stepsOf_X7_look : GoodIn wsX7_stepsOf wsX7_look := goodIn_r _ [5, 6, 7, 8, 9, 4, 10, 11, 12, 13, 14, 15, 16, 17, 18, 19, 20, 21, 22, 23, 24, 25, 26, 27, 28, 29, 30, 31, 32, 33, 34, 35] (by decide +kernel) (by decide +kernel)
set_option maxRecDepth 20000 in
theorem gX7_stepsOf_X7_look : GoodIn wsX7_stepsOf (wsV RX7 140 RX7 yX7_look wsX7_look) := goodIn_app (goodIn_of _ (by decide +kernel)) ggX7_stepsOf_X7_look
theorem dX7_stepsOf_0 : decode cX7_stepsOf 0 = .ok (.aload_n 0, 1) := by decide +kernel
theorem dX7_stepsOf_1 : decode cX7_stepsOf 1 = .ok (.iload_n 1, 1) := by decide +kernel
theorem dX7_stepsOf_2 : decode cX7_stepsOf 2 = .ok (.iconst 2, 1) := by decide +kernel
theorem dX7_stepsOf_3 : decode cX7_stepsOf 3 = .ok (.invokevirtual 140, 3) := by decide +kernel
theorem dX7_stepsOf_6 : decode cX7_stepsOf 6 = .ok (.ireturn, 1) := by decide +kernel
set_option maxRecDepth 20000 in
theorem ggX7_pointOf_X7_has : GoodIn wsX7_pointOf wsX7_has := goodIn_r _ [5, 6, 7, 8, 9, 4, 10, 11, 12, 13, 14, 15, 16, 17, 18, 29, 30, 31, 32, 33, 34, 35, 36, 37, 38, 39, 40, 41] (by decide +kernel) (by decide +kernel)
set_option maxRecDepth 20000 in
theorem gX7_pointOf_X7_has : GoodIn wsX7_pointOf (wsV RX7 143 RX7 yX7_has wsX7_has) := goodIn_app (goodIn_of _ (by decide +kernel)) ggX7_pointOf_X7_has
set_option maxRecDepth 20000 in
theorem ggX7_pointOf_X7_at : GoodIn wsX7_pointOf wsX7_at := goodIn_r _ [22, 15, 16, 17, 4, 18, 11, 23, 24, 25, 12, 13, 14, 26, 27, 28, 29, 30, 31, 32, 33, 34, 35, 36, 37, 38, 39, 40, 41] (by decide +kernel) (by decide +kernel)
set_option maxRecDepth 20000 in
theorem gX7_pointOf_X7_at : GoodIn wsX7_pointOf (wsV RX7 41 RX7 yX7_at wsX7_at) := goodIn_app (goodIn_of _ (by decide +kernel)) ggX7_pointOf_X7_at
theorem dX7_pointOf_0 : decode cX7_pointOf 0 = .ok (.aload_n 0, 1) := by decide +kernel
theorem dX7_pointOf_1 : decode cX7_pointOf 1 = .ok (.iload_n 1, 1) := by decide +kernel
theorem dX7_pointOf_2 : decode cX7_pointOf 2 = .ok (.iload_n 2, 1) := by decide +kernel
theorem dX7_pointOf_3 : decode cX7_pointOf 3 = .ok (.invokevirtual 143, 3) := by decide +kernel
theorem dX7_pointOf_6 : decode cX7_pointOf 6 = .ok (.ifCond .eq 12, 3) := by decide +kernel
theorem dX7_pointOf_9 : decode cX7_pointOf 9 = .ok (.aload_n 0, 1) := by decide +kernel
theorem dX7_pointOf_10 : decode cX7_pointOf 10 = .ok (.iload_n 1, 1) := by decide +kernel
theorem dX7_pointOf_11 : decode cX7_pointOf 11 = .ok (.iload_n 2, 1) := by decide +kernel
theorem dX7_pointOf_12 : decode cX7_pointOf 12 = .ok (.invokevirtual 41, 3) := by decide +kernel
theorem dX7_pointOf_15 : decode cX7_pointOf 15 = .ok (.goto 4, 3) := by decide +kernel
theorem dX7_pointOf_18 : decode cX7_pointOf 18 = .ok (.iconst 0, 1) := by decide +kernel
theorem dX7_pointOf_19 : decode cX7_pointOf 19 = .ok (.ireturn, 1) := by decide +kernel
set_option maxRecDepth 20000 in
theorem ggX7_lineAt_X7_isPoint : GoodIn wsX7_lineAt wsX7_isPoint := goodIn_r _ [5, 6, 7, 4, 8] (by decide +kernel) (by decide +kernel)
set_option maxRecDepth 20000 in
theorem gX7_lineAt_X7_isPoint : GoodIn wsX7_lineAt (va_wsS RX7 95 yX7_isPoint wsX7_isPoint) := goodIn_app (goodIn_of _ (by decide +kernel)) ggX7_lineAt_X7_isPoint
set_option maxRecDepth 20000 in
theorem ggX7_lineAt_X7_owner : GoodIn wsX7_lineAt wsX7_owner := goodIn_r _ [12, 13, 14, 15, 16, 4, 17, 18, 19, 20, 6, 7, 8, 21, 22, 23, 28, 29, 30, 31, 32, 33, 34, 35, 36, 37, 38, 39, 40] (by decide +kernel) (by decide +kernel)
set_option maxRecDepth 20000 in
theorem gX7_lineAt_X7_owner : GoodIn wsX7_lineAt (wsV RX7 54 RX7 yX7_owner wsX7_owner) := goodIn_app (goodIn_of _ (by decide +kernel)) ggX7_lineAt_X7_owner
set_option maxRecDepth 20000 in
theorem ggX7_lineAt_X7_fails : GoodIn wsX7_lineAt wsX7_fails := goodIn_r _ [27, 1, 28, 29, 30, 31, 32, 33, 34, 35, 36, 37, 38, 39, 40] (by decide +kernel) (by decide +kernel)
set_option maxRecDepth 20000 in
theorem gX7_lineAt_X7_fails : GoodIn wsX7_lineAt (wsV RX7 137 RX7 yX7_fails wsX7_fails) := goodIn_app (goodIn_of _ (by decide +kernel)) ggX7_lineAt_X7_fails
theorem dX7_lineAt_0 : decode cX7_lineAt 0 = .ok (.aload_n 0, 1) := by decide +kernel
theorem dX7_lineAt_1 : decode cX7_lineAt 1 = .ok (.iconst 0, 1) := by decide +kernel
theorem dX7_lineAt_2 : decode cX7_lineAt 2 = .ok (.putfield 22, 3) := by decide +kernel
theorem dX7_lineAt_5 : decode cX7_lineAt 5 = .ok (.iload_n 1, 1) := by decide +kernel
theorem dX7_lineAt_6 : decode cX7_lineAt 6 = .ok (.invokestatic 95, 3) := by decide +kernel
theorem dX7_lineAt_9 : decode cX7_lineAt 9 = .ok (.ifCond .eq 11, 3) := by decide +kernel
theorem dX7_lineAt_12 : decode cX7_lineAt 12 = .ok (.aload_n 0, 1) := by decide +kernel
theorem dX7_lineAt_13 : decode cX7_lineAt 13 = .ok (.iload_n 1, 1) := by decide +kernel
theorem dX7_lineAt_14 : decode cX7_lineAt 14 = .ok (.invokevirtual 54, 3) := by decide +kernel
theorem dX7_lineAt_17 : decode cX7_lineAt 17 = .ok (.goto 8, 3) := by decide +kernel
theorem dX7_lineAt_20 : decode cX7_lineAt 20 = .ok (.aload_n 0, 1) := by decide +kernel
theorem dX7_lineAt_21 : decode cX7_lineAt 21 = .ok (.iconst 1, 1) := by decide +kernel
theorem dX7_lineAt_22 : decode cX7_lineAt 22 = .ok (.invokevirtual 137, 3) := by decide +kernel
theorem dX7_lineAt_25 : decode cX7_lineAt 25 = .ok (.ireturn, 1) := by decide +kernel
set_option maxRecDepth 20000 in
theorem ggX7_isClosed_X7_knows : GoodIn wsX7_isClosed wsX7_knows := goodIn_r _ [5, 6, 7, 8, 9, 4, 10, 11, 12, 13, 14, 37, 38, 39, 40, 41, 42, 43, 44, 45, 46, 47, 48, 49] (by decide +kernel) (by decide +kernel)
set_option maxRecDepth 20000 in
theorem gX7_isClosed_X7_knows : GoodIn wsX7_isClosed (wsV RX7 146 RX7 yX7_knows wsX7_knows) := goodIn_app (goodIn_of _ (by decide +kernel)) ggX7_isClosed_X7_knows
set_option maxRecDepth 20000 in
theorem ggX7_isClosed_X7_closes : GoodIn wsX7_isClosed wsX7_closes := goodIn_r _ [18, 19, 20, 21, 4, 22, 11, 23, 24, 25, 26, 27, 28, 29, 30, 31, 32, 33, 12, 13, 14, 34, 35, 36, 37, 38, 39, 40, 41, 42, 43, 44, 45, 46, 47, 48, 49] (by decide +kernel) (by decide +kernel)
set_option maxRecDepth 20000 in
theorem gX7_isClosed_X7_closes : GoodIn wsX7_isClosed (wsV RX7 47 RX7 yX7_closes wsX7_closes) := goodIn_app (goodIn_of _ (by decide +kernel)) ggX7_isClosed_X7_closes
theorem dX7_isClosed_0 : decode cX7_isClosed 0 = .ok (.aload_n 0, 1) := by decide +kernel
theorem dX7_isClosed_1 : decode cX7_isClosed 1 = .ok (.iload_n 1, 1) := by decide +kernel
theorem dX7_isClosed_2 : decode cX7_isClosed 2 = .ok (.invokevirtual 146, 3) := by decide +kernel
theorem dX7_isClosed_5 : decode cX7_isClosed 5 = .ok (.ifCond .eq 15, 3) := by decide +kernel
theorem dX7_isClosed_8 : decode cX7_isClosed 8 = .ok (.aload_n 0, 1) := by decide +kernel
theorem dX7_isClosed_9 : decode cX7_isClosed 9 = .ok (.iload_n 1, 1) := by decide +kernel
theorem dX7_isClosed_10 : decode cX7_isClosed 10 = .ok (.invokevirtual 47, 3) := by decide +kernel
theorem dX7_isClosed_13 : decode cX7_isClosed 13 = .ok (.ifCond .eq 7, 3) := by decide +kernel
theorem dX7_isClosed_16 : decode cX7_isClosed 16 = .ok (.iconst 1, 1) := by decide +kernel
theorem dX7_isClosed_17 : decode cX7_isClosed 17 = .ok (.goto 4, 3) := by decide +kernel
theorem dX7_isClosed_20 : decode cX7_isClosed 20 = .ok (.iconst 0, 1) := by decide +kernel
theorem dX7_isClosed_21 : decode cX7_isClosed 21 = .ok (.ireturn, 1) := by decide +kernel
set_option maxRecDepth 20000 in
theorem ggX7_whyNotStepped_X7_isLine : GoodIn wsX7_whyNotStepped wsX7_isLine := goodIn_r _ [6, 7, 8, 9, 5, 10, 52, 53, 54, 55, 56, 57, 58, 59, 60, 61, 62, 63, 64] (by decide +kernel) (by decide +kernel)
set_option maxRecDepth 20000 in
theorem gX7_whyNotStepped_X7_isLine : GoodIn wsX7_whyNotStepped (wsV RX7 98 RX7 yX7_isLine wsX7_isLine) := goodIn_app (goodIn_of _ (by decide +kernel)) ggX7_whyNotStepped_X7_isLine
set_option maxRecDepth 20000 in
theorem ggX7_whyNotStepped_X7_fails : GoodIn wsX7_whyNotStepped wsX7_fails := goodIn_r _ [14, 1, 52, 53, 54, 55, 56, 57, 58, 59, 60, 61, 62, 63, 64] (by decide +kernel) (by decide +kernel)
set_option maxRecDepth 20000 in
theorem gX7_whyNotStepped_X7_fails : GoodIn wsX7_whyNotStepped (wsV RX7 137 RX7 yX7_fails wsX7_fails) := goodIn_app (goodIn_of _ (by decide +kernel)) ggX7_whyNotStepped_X7_fails
set_option maxRecDepth 20000 in
theorem ggX7_whyNotStepped_X7_in : GoodIn wsX7_whyNotStepped wsX7_in := goodIn_r _ [10] (by decide +kernel) (by decide +kernel)
set_option maxRecDepth 20000 in
theorem gX7_whyNotStepped_X7_in : GoodIn wsX7_whyNotStepped (va_wsS RX7 26 yX7_in wsX7_in) := goodIn_app (goodIn_of _ (by decide +kernel)) ggX7_whyNotStepped_X7_in
set_option maxRecDepth 20000 in
theorem ggX7_whyNotStepped_X7_whyNot : GoodIn wsX7_whyNotStepped wsX7_whyNot := goodIn_r _ [18, 19, 20, 21, 5, 22, 23, 24, 25, 26, 7, 27, 28, 29, 30, 31, 32, 33, 34, 35, 36, 37, 8, 9, 10, 38, 39, 40, 41, 42, 43, 44, 45, 46, 47, 48, 49, 50, 51, 52, 53, 54, 55, 56, 57, 58, 59, 60, 61, 62, 63, 64] (by decide +kernel) (by decide +kernel)
set_option maxRecDepth 20000 in
theorem gX7_whyNotStepped_X7_whyNot : GoodIn wsX7_whyNotStepped (wsV RX7 101 RX7 yX7_whyNot wsX7_whyNot) := goodIn_app (goodIn_of _ (by decide +kernel)) ggX7_whyNotStepped_X7_whyNot
theorem dX7_whyNotStepped_0 : decode cX7_whyNotStepped 0 = .ok (.aload_n 0, 1) := by decide +kernel
theorem dX7_whyNotStepped_1 : decode cX7_whyNotStepped 1 = .ok (.iconst 0, 1) := by decide +kernel
theorem dX7_whyNotStepped_2 : decode cX7_whyNotStepped 2 = .ok (.putfield 22, 3) := by decide +kernel
theorem dX7_whyNotStepped_5 : decode cX7_whyNotStepped 5 = .ok (.aload_n 0, 1) := by decide +kernel
theorem dX7_whyNotStepped_6 : decode cX7_whyNotStepped 6 = .ok (.iload_n 1, 1) := by decide +kernel
theorem dX7_whyNotStepped_7 : decode cX7_whyNotStepped 7 = .ok (.invokevirtual 98, 3) := by decide +kernel
theorem dX7_whyNotStepped_10 : decode cX7_whyNotStepped 10 = .ok (.ifCond .ne 9, 3) := by decide +kernel
theorem dX7_whyNotStepped_13 : decode cX7_whyNotStepped 13 = .ok (.aload_n 0, 1) := by decide +kernel
theorem dX7_whyNotStepped_14 : decode cX7_whyNotStepped 14 = .ok (.iconst 1, 1) := by decide +kernel
theorem dX7_whyNotStepped_15 : decode cX7_whyNotStepped 15 = .ok (.invokevirtual 137, 3) := by decide +kernel
theorem dX7_whyNotStepped_18 : decode cX7_whyNotStepped 18 = .ok (.ireturn, 1) := by decide +kernel
theorem dX7_whyNotStepped_19 : decode cX7_whyNotStepped 19 = .ok (.iload_n 2, 1) := by decide +kernel
theorem dX7_whyNotStepped_20 : decode cX7_whyNotStepped 20 = .ok (.iconst 0, 1) := by decide +kernel
theorem dX7_whyNotStepped_21 : decode cX7_whyNotStepped 21 = .ok (.bipush 7, 2) := by decide +kernel
theorem dX7_whyNotStepped_23 : decode cX7_whyNotStepped 23 = .ok (.invokestatic 26, 3) := by decide +kernel
theorem dX7_whyNotStepped_26 : decode cX7_whyNotStepped 26 = .ok (.ifCond .eq 12, 3) := by decide +kernel
theorem dX7_whyNotStepped_29 : decode cX7_whyNotStepped 29 = .ok (.aload_n 0, 1) := by decide +kernel
theorem dX7_whyNotStepped_30 : decode cX7_whyNotStepped 30 = .ok (.iload_n 1, 1) := by decide +kernel
theorem dX7_whyNotStepped_31 : decode cX7_whyNotStepped 31 = .ok (.iload_n 2, 1) := by decide +kernel
theorem dX7_whyNotStepped_32 : decode cX7_whyNotStepped 32 = .ok (.invokevirtual 101, 3) := by decide +kernel
theorem dX7_whyNotStepped_35 : decode cX7_whyNotStepped 35 = .ok (.goto 8, 3) := by decide +kernel
theorem dX7_whyNotStepped_38 : decode cX7_whyNotStepped 38 = .ok (.aload_n 0, 1) := by decide +kernel
theorem dX7_whyNotStepped_39 : decode cX7_whyNotStepped 39 = .ok (.iconst 2, 1) := by decide +kernel
theorem dX7_whyNotStepped_40 : decode cX7_whyNotStepped 40 = .ok (.invokevirtual 137, 3) := by decide +kernel
theorem dX7_whyNotStepped_43 : decode cX7_whyNotStepped 43 = .ok (.ireturn, 1) := by decide +kernel
set_option maxRecDepth 20000 in
theorem ggX7_bendAt_X7_has : GoodIn wsX7_bendAt wsX7_has := goodIn_r _ [5, 6, 7, 8, 9, 4, 10, 11, 12, 13, 14, 15, 16, 17, 18, 47, 48, 49, 50, 51, 52, 53, 54, 55, 56, 57, 58, 59] (by decide +kernel) (by decide +kernel)
set_option maxRecDepth 20000 in
theorem gX7_bendAt_X7_has : GoodIn wsX7_bendAt (wsV RX7 143 RX7 yX7_has wsX7_has) := goodIn_app (goodIn_of _ (by decide +kernel)) ggX7_bendAt_X7_has
set_option maxRecDepth 20000 in
theorem ggX7_bendAt_X7_bend : GoodIn wsX7_bendAt wsX7_bend := goodIn_r _ [22, 15, 16, 17, 4, 18, 11, 23, 24, 25, 26, 27, 28, 29, 30, 31, 32, 33, 34, 35, 36, 37, 38, 39, 40, 41, 42, 43, 12, 13, 14, 44, 45, 46, 47, 48, 49, 50, 51, 52, 53, 54, 55, 56, 57, 58, 59] (by decide +kernel) (by decide +kernel)
set_option maxRecDepth 20000 in
theorem gX7_bendAt_X7_bend : GoodIn wsX7_bendAt (wsV RX7 70 RX7 yX7_bend wsX7_bend) := goodIn_app (goodIn_of _ (by decide +kernel)) ggX7_bendAt_X7_bend
theorem dX7_bendAt_0 : decode cX7_bendAt 0 = .ok (.aload_n 0, 1) := by decide +kernel
theorem dX7_bendAt_1 : decode cX7_bendAt 1 = .ok (.iload_n 1, 1) := by decide +kernel
theorem dX7_bendAt_2 : decode cX7_bendAt 2 = .ok (.iload_n 2, 1) := by decide +kernel
theorem dX7_bendAt_3 : decode cX7_bendAt 3 = .ok (.invokevirtual 143, 3) := by decide +kernel
theorem dX7_bendAt_6 : decode cX7_bendAt 6 = .ok (.ifCond .eq 12, 3) := by decide +kernel
theorem dX7_bendAt_9 : decode cX7_bendAt 9 = .ok (.aload_n 0, 1) := by decide +kernel
theorem dX7_bendAt_10 : decode cX7_bendAt 10 = .ok (.iload_n 1, 1) := by decide +kernel
theorem dX7_bendAt_11 : decode cX7_bendAt 11 = .ok (.iload_n 2, 1) := by decide +kernel
theorem dX7_bendAt_12 : decode cX7_bendAt 12 = .ok (.invokevirtual 70, 3) := by decide +kernel
theorem dX7_bendAt_15 : decode cX7_bendAt 15 = .ok (.goto 4, 3) := by decide +kernel
theorem dX7_bendAt_18 : decode cX7_bendAt 18 = .ok (.iconst 0, 1) := by decide +kernel
theorem dX7_bendAt_19 : decode cX7_bendAt 19 = .ok (.ireturn, 1) := by decide +kernel
set_option maxRecDepth 20000 in
theorem ggX7_slanting_X7_of : GoodIn wsX7_slanting wsX7_of := goodIn_r _ [5, 6, 7, 8, 9, 10, 11, 12, 13, 14, 15, 16, 17, 18, 19] (by decide +kernel) (by decide +kernel)
set_option maxRecDepth 20000 in
theorem gX7_slanting_X7_of : GoodIn wsX7_slanting (wsV RX7 37 RX7 yX7_of wsX7_of) := goodIn_app (goodIn_of _ (by decide +kernel)) ggX7_slanting_X7_of
theorem dX7_slanting_0 : decode cX7_slanting 0 = .ok (.iconst 0, 1) := by decide +kernel
theorem dX7_slanting_1 : decode cX7_slanting 1 = .ok (.istore_n 2, 1) := by decide +kernel
theorem dX7_slanting_2 : decode cX7_slanting 2 = .ok (.iconst 0, 1) := by decide +kernel
theorem dX7_slanting_3 : decode cX7_slanting 3 = .ok (.istore_n 3, 1) := by decide +kernel
theorem dX7_slanting_4 : decode cX7_slanting 4 = .ok (.iload_n 3, 1) := by decide +kernel
theorem dX7_slanting_5 : decode cX7_slanting 5 = .ok (.aload_n 0, 1) := by decide +kernel
theorem dX7_slanting_6 : decode cX7_slanting 6 = .ok (.iload_n 1, 1) := by decide +kernel
theorem dX7_slanting_7 : decode cX7_slanting 7 = .ok (.iconst 2, 1) := by decide +kernel
theorem dX7_slanting_8 : decode cX7_slanting 8 = .ok (.invokevirtual 37, 3) := by decide +kernel
theorem dX7_slanting_11 : decode cX7_slanting 11 = .ok (.if_icmp .ge 22, 3) := by decide +kernel
theorem dX7_slanting_14 : decode cX7_slanting 14 = .ok (.iload_n 2, 1) := by decide +kernel
theorem dX7_slanting_15 : decode cX7_slanting 15 = .ok (.aload_n 0, 1) := by decide +kernel
theorem dX7_slanting_16 : decode cX7_slanting 16 = .ok (.iload_n 1, 1) := by decide +kernel
theorem dX7_slanting_17 : decode cX7_slanting 17 = .ok (.iconst 4, 1) := by decide +kernel
theorem dX7_slanting_18 : decode cX7_slanting 18 = .ok (.iload_n 3, 1) := by decide +kernel
theorem dX7_slanting_19 : decode cX7_slanting 19 = .ok (.iadd, 1) := by decide +kernel
theorem dX7_slanting_20 : decode cX7_slanting 20 = .ok (.invokevirtual 37, 3) := by decide +kernel
theorem dX7_slanting_23 : decode cX7_slanting 23 = .ok (.iconst 2, 1) := by decide +kernel
theorem dX7_slanting_24 : decode cX7_slanting 24 = .ok (.irem, 1) := by decide +kernel
theorem dX7_slanting_25 : decode cX7_slanting 25 = .ok (.iadd, 1) := by decide +kernel
theorem dX7_slanting_26 : decode cX7_slanting 26 = .ok (.istore_n 2, 1) := by decide +kernel
theorem dX7_slanting_27 : decode cX7_slanting 27 = .ok (.iinc 3 1, 3) := by decide +kernel
theorem dX7_slanting_30 : decode cX7_slanting 30 = .ok (.goto (-26), 3) := by decide +kernel
theorem dX7_slanting_33 : decode cX7_slanting 33 = .ok (.iload_n 2, 1) := by decide +kernel
theorem dX7_slanting_34 : decode cX7_slanting 34 = .ok (.ireturn, 1) := by decide +kernel
set_option maxRecDepth 20000 in
theorem ggX7_lengthByKinds_X7_knows : GoodIn wsX7_lengthByKinds wsX7_knows := goodIn_r _ [6, 7, 8, 9, 10, 5, 11, 12, 13, 14, 15, 24, 25, 26, 27, 28, 29, 30, 31, 32, 33, 34, 35, 36] (by decide +kernel) (by decide +kernel)
set_option maxRecDepth 20000 in
theorem gX7_lengthByKinds_X7_knows : GoodIn wsX7_lengthByKinds (wsV RX7 146 RX7 yX7_knows wsX7_knows) := goodIn_app (goodIn_of _ (by decide +kernel)) ggX7_lengthByKinds_X7_knows
set_option maxRecDepth 20000 in
theorem ggX7_lengthByKinds_X7_of : GoodIn wsX7_lengthByKinds wsX7_of := goodIn_r _ [19, 12, 24, 25, 26, 27, 28, 29, 30, 31, 32, 33, 34, 35, 36] (by decide +kernel) (by decide +kernel)
set_option maxRecDepth 20000 in
theorem gX7_lengthByKinds_X7_of : GoodIn wsX7_lengthByKinds (wsV RX7 37 RX7 yX7_of wsX7_of) := goodIn_app (goodIn_of _ (by decide +kernel)) ggX7_lengthByKinds_X7_of
set_option maxRecDepth 20000 in
theorem ggX7_lengthByKinds_X7_slanting : GoodIn wsX7_lengthByKinds wsX7_slanting := goodIn_r _ [23, 16, 17, 18, 5, 19, 12, 24, 25, 26, 27, 28, 29, 30, 31, 32, 33, 34, 35, 36] (by decide +kernel) (by decide +kernel)
set_option maxRecDepth 20000 in
theorem gX7_lengthByKinds_X7_slanting : GoodIn wsX7_lengthByKinds (wsV RX7 149 RX7 yX7_slanting wsX7_slanting) := goodIn_app (goodIn_of _ (by decide +kernel)) ggX7_lengthByKinds_X7_slanting
theorem dX7_lengthByKinds_0 : decode cX7_lengthByKinds 0 = .ok (.aload_n 0, 1) := by decide +kernel
theorem dX7_lengthByKinds_1 : decode cX7_lengthByKinds 1 = .ok (.iload_n 1, 1) := by decide +kernel
theorem dX7_lengthByKinds_2 : decode cX7_lengthByKinds 2 = .ok (.invokevirtual 146, 3) := by decide +kernel
theorem dX7_lengthByKinds_5 : decode cX7_lengthByKinds 5 = .ok (.ifCond .eq 30, 3) := by decide +kernel
theorem dX7_lengthByKinds_8 : decode cX7_lengthByKinds 8 = .ok (.aload_n 0, 1) := by decide +kernel
theorem dX7_lengthByKinds_9 : decode cX7_lengthByKinds 9 = .ok (.iload_n 1, 1) := by decide +kernel
theorem dX7_lengthByKinds_10 : decode cX7_lengthByKinds 10 = .ok (.iconst 2, 1) := by decide +kernel
theorem dX7_lengthByKinds_11 : decode cX7_lengthByKinds 11 = .ok (.invokevirtual 37, 3) := by decide +kernel
theorem dX7_lengthByKinds_14 : decode cX7_lengthByKinds 14 = .ok (.aload_n 0, 1) := by decide +kernel
theorem dX7_lengthByKinds_15 : decode cX7_lengthByKinds 15 = .ok (.iload_n 1, 1) := by decide +kernel
theorem dX7_lengthByKinds_16 : decode cX7_lengthByKinds 16 = .ok (.invokevirtual 149, 3) := by decide +kernel
theorem dX7_lengthByKinds_19 : decode cX7_lengthByKinds 19 = .ok (.isub, 1) := by decide +kernel
theorem dX7_lengthByKinds_20 : decode cX7_lengthByKinds 20 = .ok (.i2d, 1) := by decide +kernel
theorem dX7_lengthByKinds_21 : decode cX7_lengthByKinds 21 = .ok (.aload_n 0, 1) := by decide +kernel
theorem dX7_lengthByKinds_22 : decode cX7_lengthByKinds 22 = .ok (.iload_n 1, 1) := by decide +kernel
theorem dX7_lengthByKinds_23 : decode cX7_lengthByKinds 23 = .ok (.invokevirtual 149, 3) := by decide +kernel
theorem dX7_lengthByKinds_26 : decode cX7_lengthByKinds 26 = .ok (.i2d, 1) := by decide +kernel
theorem dX7_lengthByKinds_27 : decode cX7_lengthByKinds 27 = .ok (.ldc2_w 152, 3) := by decide +kernel
theorem dX7_lengthByKinds_30 : decode cX7_lengthByKinds 30 = .ok (.dmul, 1) := by decide +kernel
theorem dX7_lengthByKinds_31 : decode cX7_lengthByKinds 31 = .ok (.dadd, 1) := by decide +kernel
theorem dX7_lengthByKinds_32 : decode cX7_lengthByKinds 32 = .ok (.goto 4, 3) := by decide +kernel
theorem dX7_lengthByKinds_35 : decode cX7_lengthByKinds 35 = .ok (.dconst 0, 1) := by decide +kernel
theorem dX7_lengthByKinds_36 : decode cX7_lengthByKinds 36 = .ok (.dreturn, 1) := by decide +kernel
set_option maxRecDepth 20000 in
theorem ggX7_lengthBySteps_X7_knows : GoodIn wsX7_lengthBySteps wsX7_knows := goodIn_r _ [6, 7, 8, 9, 10, 5, 11, 12, 13, 14, 15, 20, 21, 22, 23, 24, 25, 26, 27, 28, 29, 30, 31, 32] (by decide +kernel) (by decide +kernel)
set_option maxRecDepth 20000 in
theorem gX7_lengthBySteps_X7_knows : GoodIn wsX7_lengthBySteps (wsV RX7 146 RX7 yX7_knows wsX7_knows) := goodIn_app (goodIn_of _ (by decide +kernel)) ggX7_lengthBySteps_X7_knows
set_option maxRecDepth 20000 in
theorem ggX7_lengthBySteps_X7_of : GoodIn wsX7_lengthBySteps wsX7_of := goodIn_r _ [19, 12, 20, 21, 22, 23, 24, 25, 26, 27, 28, 29, 30, 31, 32] (by decide +kernel) (by decide +kernel)
set_option maxRecDepth 20000 in
theorem gX7_lengthBySteps_X7_of : GoodIn wsX7_lengthBySteps (wsV RX7 37 RX7 yX7_of wsX7_of) := goodIn_app (goodIn_of _ (by decide +kernel)) ggX7_lengthBySteps_X7_of
theorem dX7_lengthBySteps_0 : decode cX7_lengthBySteps 0 = .ok (.dconst 0, 1) := by decide +kernel
theorem dX7_lengthBySteps_1 : decode cX7_lengthBySteps 1 = .ok (.dstore_n 2, 1) := by decide +kernel
theorem dX7_lengthBySteps_2 : decode cX7_lengthBySteps 2 = .ok (.aload_n 0, 1) := by decide +kernel
theorem dX7_lengthBySteps_3 : decode cX7_lengthBySteps 3 = .ok (.iload_n 1, 1) := by decide +kernel
theorem dX7_lengthBySteps_4 : decode cX7_lengthBySteps 4 = .ok (.invokevirtual 146, 3) := by decide +kernel
theorem dX7_lengthBySteps_7 : decode cX7_lengthBySteps 7 = .ok (.istore 4, 2) := by decide +kernel
theorem dX7_lengthBySteps_9 : decode cX7_lengthBySteps 9 = .ok (.iconst 0, 1) := by decide +kernel
theorem dX7_lengthBySteps_10 : decode cX7_lengthBySteps 10 = .ok (.istore 5, 2) := by decide +kernel
theorem dX7_lengthBySteps_12 : decode cX7_lengthBySteps 12 = .ok (.iload 5, 2) := by decide +kernel
theorem dX7_lengthBySteps_14 : decode cX7_lengthBySteps 14 = .ok (.iload 4, 2) := by decide +kernel
theorem dX7_lengthBySteps_16 : decode cX7_lengthBySteps 16 = .ok (.ifCond .eq 12, 3) := by decide +kernel
theorem dX7_lengthBySteps_19 : decode cX7_lengthBySteps 19 = .ok (.aload_n 0, 1) := by decide +kernel
theorem dX7_lengthBySteps_20 : decode cX7_lengthBySteps 20 = .ok (.iload_n 1, 1) := by decide +kernel
theorem dX7_lengthBySteps_21 : decode cX7_lengthBySteps 21 = .ok (.iconst 2, 1) := by decide +kernel
theorem dX7_lengthBySteps_22 : decode cX7_lengthBySteps 22 = .ok (.invokevirtual 37, 3) := by decide +kernel
theorem dX7_lengthBySteps_25 : decode cX7_lengthBySteps 25 = .ok (.goto 4, 3) := by decide +kernel
theorem dX7_lengthBySteps_28 : decode cX7_lengthBySteps 28 = .ok (.iconst 0, 1) := by decide +kernel
theorem dX7_lengthBySteps_29 : decode cX7_lengthBySteps 29 = .ok (.if_icmp .ge 34, 3) := by decide +kernel
theorem dX7_lengthBySteps_32 : decode cX7_lengthBySteps 32 = .ok (.dload_n 2, 1) := by decide +kernel
theorem dX7_lengthBySteps_33 : decode cX7_lengthBySteps 33 = .ok (.aload_n 0, 1) := by decide +kernel
theorem dX7_lengthBySteps_34 : decode cX7_lengthBySteps 34 = .ok (.iload_n 1, 1) := by decide +kernel
theorem dX7_lengthBySteps_35 : decode cX7_lengthBySteps 35 = .ok (.iconst 4, 1) := by decide +kernel
theorem dX7_lengthBySteps_36 : decode cX7_lengthBySteps 36 = .ok (.iload 5, 2) := by decide +kernel
theorem dX7_lengthBySteps_38 : decode cX7_lengthBySteps 38 = .ok (.iadd, 1) := by decide +kernel
theorem dX7_lengthBySteps_39 : decode cX7_lengthBySteps 39 = .ok (.invokevirtual 37, 3) := by decide +kernel
theorem dX7_lengthBySteps_42 : decode cX7_lengthBySteps 42 = .ok (.iconst 2, 1) := by decide +kernel
theorem dX7_lengthBySteps_43 : decode cX7_lengthBySteps 43 = .ok (.irem, 1) := by decide +kernel
theorem dX7_lengthBySteps_44 : decode cX7_lengthBySteps 44 = .ok (.iconst 1, 1) := by decide +kernel
theorem dX7_lengthBySteps_45 : decode cX7_lengthBySteps 45 = .ok (.if_icmp .ne 9, 3) := by decide +kernel
theorem dX7_lengthBySteps_48 : decode cX7_lengthBySteps 48 = .ok (.ldc2_w 152, 3) := by decide +kernel
theorem dX7_lengthBySteps_51 : decode cX7_lengthBySteps 51 = .ok (.goto 4, 3) := by decide +kernel
theorem dX7_lengthBySteps_54 : decode cX7_lengthBySteps 54 = .ok (.dconst 1, 1) := by decide +kernel
theorem dX7_lengthBySteps_55 : decode cX7_lengthBySteps 55 = .ok (.dadd, 1) := by decide +kernel
theorem dX7_lengthBySteps_56 : decode cX7_lengthBySteps 56 = .ok (.dstore_n 2, 1) := by decide +kernel
theorem dX7_lengthBySteps_57 : decode cX7_lengthBySteps 57 = .ok (.iinc 5 1, 3) := by decide +kernel
theorem dX7_lengthBySteps_60 : decode cX7_lengthBySteps 60 = .ok (.goto (-48), 3) := by decide +kernel
theorem dX7_lengthBySteps_63 : decode cX7_lengthBySteps 63 = .ok (.dload_n 2, 1) := by decide +kernel
theorem dX7_lengthBySteps_64 : decode cX7_lengthBySteps 64 = .ok (.dreturn, 1) := by decide +kernel
theorem dX7_gap_0 : decode cX7_gap 0 = .ok (.aload_n 0, 1) := by decide +kernel
theorem dX7_gap_1 : decode cX7_gap 1 = .ok (.iconst 0, 1) := by decide +kernel
theorem dX7_gap_2 : decode cX7_gap 2 = .ok (.putfield 22, 3) := by decide +kernel
theorem dX7_gap_5 : decode cX7_gap 5 = .ok (.aload_n 0, 1) := by decide +kernel
theorem dX7_gap_6 : decode cX7_gap 6 = .ok (.getfield 7, 3) := by decide +kernel
theorem dX7_gap_9 : decode cX7_gap 9 = .ok (.iconst 1, 1) := by decide +kernel
theorem dX7_gap_10 : decode cX7_gap 10 = .ok (.iaload, 1) := by decide +kernel
theorem dX7_gap_11 : decode cX7_gap 11 = .ok (.ireturn, 1) := by decide +kernel
set_option maxRecDepth 20000 in
theorem ggX7_labels_X7_labelled : GoodIn wsX7_labels wsX7_labelled := goodIn_r _ [6, 7, 8, 9, 10, 5, 11, 12, 13, 14, 15, 16, 17, 18, 19, 20, 21, 22, 23, 24] (by decide +kernel) (by decide +kernel)
set_option maxRecDepth 20000 in
theorem gX7_labels_X7_labelled : GoodIn wsX7_labels (wsV RX7 114 RX7 yX7_labelled wsX7_labelled) := goodIn_app (goodIn_of _ (by decide +kernel)) ggX7_labels_X7_labelled
theorem dX7_labels_0 : decode cX7_labels 0 = .ok (.aload_n 0, 1) := by decide +kernel
theorem dX7_labels_1 : decode cX7_labels 1 = .ok (.iconst 0, 1) := by decide +kernel
theorem dX7_labels_2 : decode cX7_labels 2 = .ok (.putfield 22, 3) := by decide +kernel
theorem dX7_labels_5 : decode cX7_labels 5 = .ok (.aload_n 0, 1) := by decide +kernel
theorem dX7_labels_6 : decode cX7_labels 6 = .ok (.invokevirtual 114, 3) := by decide +kernel
theorem dX7_labels_9 : decode cX7_labels 9 = .ok (.ireturn, 1) := by decide +kernel
set_option maxRecDepth 20000 in
theorem ggX7_labelOf_X7_look : GoodIn wsX7_labelOf wsX7_look := goodIn_r _ [5, 6, 7, 8, 9, 4, 10, 11, 12, 13, 14, 15, 16, 17, 18, 19, 20, 21, 22, 23, 24, 25, 26, 27, 28, 29, 30, 31, 32, 33, 34, 35] (by decide +kernel) (by decide +kernel)
set_option maxRecDepth 20000 in
theorem gX7_labelOf_X7_look : GoodIn wsX7_labelOf (wsV RX7 140 RX7 yX7_look wsX7_look) := goodIn_app (goodIn_of _ (by decide +kernel)) ggX7_labelOf_X7_look
theorem dX7_labelOf_0 : decode cX7_labelOf 0 = .ok (.aload_n 0, 1) := by decide +kernel
theorem dX7_labelOf_1 : decode cX7_labelOf 1 = .ok (.iload_n 1, 1) := by decide +kernel
theorem dX7_labelOf_2 : decode cX7_labelOf 2 = .ok (.iconst 3, 1) := by decide +kernel
theorem dX7_labelOf_3 : decode cX7_labelOf 3 = .ok (.invokevirtual 140, 3) := by decide +kernel
theorem dX7_labelOf_6 : decode cX7_labelOf 6 = .ok (.ireturn, 1) := by decide +kernel
set_option maxRecDepth 20000 in
theorem ggX7_labelEnd_X7_of : GoodIn wsX7_labelEnd wsX7_of := goodIn_r _ [5, 6, 24, 25, 26, 27, 28, 29, 30, 31, 32, 33, 34, 35, 36] (by decide +kernel) (by decide +kernel)
set_option maxRecDepth 20000 in
theorem gX7_labelEnd_X7_of : GoodIn wsX7_labelEnd (wsV RX7 37 RX7 yX7_of wsX7_of) := goodIn_app (goodIn_of _ (by decide +kernel)) ggX7_labelEnd_X7_of
set_option maxRecDepth 20000 in
theorem ggX7_labelEnd_X7_size : GoodIn wsX7_labelEnd wsX7_size := goodIn_r _ [10, 1, 2, 3, 4, 5, 6, 24, 25, 26, 27, 28, 29, 30, 31, 32, 33, 34, 35, 36] (by decide +kernel) (by decide +kernel)
set_option maxRecDepth 20000 in
theorem gX7_labelEnd_X7_size : GoodIn wsX7_labelEnd (wsV RX7 67 RX7 yX7_size wsX7_size) := goodIn_app (goodIn_of _ (by decide +kernel)) ggX7_labelEnd_X7_size
set_option maxRecDepth 20000 in
theorem ggX7_labelEnd_X7_at : GoodIn wsX7_labelEnd wsX7_at := goodIn_r _ [14, 1, 2, 3, 4, 5, 6, 15, 16, 17, 18, 19, 20, 21, 22, 23, 24, 25, 26, 27, 28, 29, 30, 31, 32, 33, 34, 35, 36] (by decide +kernel) (by decide +kernel)
set_option maxRecDepth 20000 in
theorem gX7_labelEnd_X7_at : GoodIn wsX7_labelEnd (wsV RX7 41 RX7 yX7_at wsX7_at) := goodIn_app (goodIn_of _ (by decide +kernel)) ggX7_labelEnd_X7_at
theorem dX7_labelEnd_0 : decode cX7_labelEnd 0 = .ok (.aload_n 0, 1) := by decide +kernel
theorem dX7_labelEnd_1 : decode cX7_labelEnd 1 = .ok (.iload_n 1, 1) := by decide +kernel
theorem dX7_labelEnd_2 : decode cX7_labelEnd 2 = .ok (.aload_n 0, 1) := by decide +kernel
theorem dX7_labelEnd_3 : decode cX7_labelEnd 3 = .ok (.iload_n 1, 1) := by decide +kernel
theorem dX7_labelEnd_4 : decode cX7_labelEnd 4 = .ok (.iconst 3, 1) := by decide +kernel
theorem dX7_labelEnd_5 : decode cX7_labelEnd 5 = .ok (.invokevirtual 37, 3) := by decide +kernel
theorem dX7_labelEnd_8 : decode cX7_labelEnd 8 = .ok (.aload_n 0, 1) := by decide +kernel
theorem dX7_labelEnd_9 : decode cX7_labelEnd 9 = .ok (.iload_n 1, 1) := by decide +kernel
theorem dX7_labelEnd_10 : decode cX7_labelEnd 10 = .ok (.invokevirtual 67, 3) := by decide +kernel
theorem dX7_labelEnd_13 : decode cX7_labelEnd 13 = .ok (.iadd, 1) := by decide +kernel
theorem dX7_labelEnd_14 : decode cX7_labelEnd 14 = .ok (.iconst 1, 1) := by decide +kernel
theorem dX7_labelEnd_15 : decode cX7_labelEnd 15 = .ok (.isub, 1) := by decide +kernel
theorem dX7_labelEnd_16 : decode cX7_labelEnd 16 = .ok (.invokevirtual 41, 3) := by decide +kernel
theorem dX7_labelEnd_19 : decode cX7_labelEnd 19 = .ok (.ireturn, 1) := by decide +kernel
set_option maxRecDepth 20000 in
theorem ggX7_isLeft_X7_of : GoodIn wsX7_isLeft wsX7_of := goodIn_r _ [5, 6, 28, 29, 30, 31, 32, 33, 34, 35, 36, 37, 38, 39, 40] (by decide +kernel) (by decide +kernel)
set_option maxRecDepth 20000 in
theorem gX7_isLeft_X7_of : GoodIn wsX7_isLeft (wsV RX7 37 RX7 yX7_of wsX7_of) := goodIn_app (goodIn_of _ (by decide +kernel)) ggX7_isLeft_X7_of
set_option maxRecDepth 20000 in
theorem ggX7_isLeft_X7_labelEnd : GoodIn wsX7_isLeft wsX7_labelEnd := goodIn_r _ [10, 1, 2, 3, 4, 5, 6, 11, 12, 13, 14, 15, 16, 17, 18, 19, 20, 21, 22, 23, 24, 25, 26, 27, 28, 29, 30, 31, 32, 33, 34, 35, 36, 37, 38, 39, 40] (by decide +kernel) (by decide +kernel)
set_option maxRecDepth 20000 in
theorem gX7_isLeft_X7_labelEnd : GoodIn wsX7_isLeft (wsV RX7 154 RX7 yX7_labelEnd wsX7_labelEnd) := goodIn_app (goodIn_of _ (by decide +kernel)) ggX7_isLeft_X7_labelEnd
set_option maxRecDepth 20000 in
theorem ggX7_isLeft_X7_at : GoodIn wsX7_isLeft wsX7_at := goodIn_r _ [18, 1, 2, 3, 4, 5, 6, 19, 20, 21, 22, 23, 24, 25, 26, 27, 28, 29, 30, 31, 32, 33, 34, 35, 36, 37, 38, 39, 40] (by decide +kernel) (by decide +kernel)
set_option maxRecDepth 20000 in
theorem gX7_isLeft_X7_at : GoodIn wsX7_isLeft (wsV RX7 41 RX7 yX7_at wsX7_at) := goodIn_app (goodIn_of _ (by decide +kernel)) ggX7_isLeft_X7_at
theorem dX7_isLeft_0 : decode cX7_isLeft 0 = .ok (.aload_n 0, 1) := by decide +kernel
theorem dX7_isLeft_1 : decode cX7_isLeft 1 = .ok (.iload_n 1, 1) := by decide +kernel
theorem dX7_isLeft_2 : decode cX7_isLeft 2 = .ok (.iconst 3, 1) := by decide +kernel
theorem dX7_isLeft_3 : decode cX7_isLeft 3 = .ok (.invokevirtual 37, 3) := by decide +kernel
theorem dX7_isLeft_6 : decode cX7_isLeft 6 = .ok (.iconst (-1), 1) := by decide +kernel
theorem dX7_isLeft_7 : decode cX7_isLeft 7 = .ok (.if_icmp .eq 32, 3) := by decide +kernel
theorem dX7_isLeft_10 : decode cX7_isLeft 10 = .ok (.aload_n 0, 1) := by decide +kernel
theorem dX7_isLeft_11 : decode cX7_isLeft 11 = .ok (.iload_n 1, 1) := by decide +kernel
theorem dX7_isLeft_12 : decode cX7_isLeft 12 = .ok (.invokevirtual 154, 3) := by decide +kernel
theorem dX7_isLeft_15 : decode cX7_isLeft 15 = .ok (.bipush 24, 2) := by decide +kernel
theorem dX7_isLeft_17 : decode cX7_isLeft 17 = .ok (.irem, 1) := by decide +kernel
theorem dX7_isLeft_18 : decode cX7_isLeft 18 = .ok (.aload_n 0, 1) := by decide +kernel
theorem dX7_isLeft_19 : decode cX7_isLeft 19 = .ok (.iload_n 1, 1) := by decide +kernel
theorem dX7_isLeft_20 : decode cX7_isLeft 20 = .ok (.aload_n 0, 1) := by decide +kernel
theorem dX7_isLeft_21 : decode cX7_isLeft 21 = .ok (.iload_n 1, 1) := by decide +kernel
theorem dX7_isLeft_22 : decode cX7_isLeft 22 = .ok (.iconst 3, 1) := by decide +kernel
theorem dX7_isLeft_23 : decode cX7_isLeft 23 = .ok (.invokevirtual 37, 3) := by decide +kernel
theorem dX7_isLeft_26 : decode cX7_isLeft 26 = .ok (.invokevirtual 41, 3) := by decide +kernel
theorem dX7_isLeft_29 : decode cX7_isLeft 29 = .ok (.bipush 24, 2) := by decide +kernel
theorem dX7_isLeft_31 : decode cX7_isLeft 31 = .ok (.irem, 1) := by decide +kernel
theorem dX7_isLeft_32 : decode cX7_isLeft 32 = .ok (.if_icmp .ge 7, 3) := by decide +kernel
theorem dX7_isLeft_35 : decode cX7_isLeft 35 = .ok (.iconst 1, 1) := by decide +kernel
theorem dX7_isLeft_36 : decode cX7_isLeft 36 = .ok (.goto 4, 3) := by decide +kernel
theorem dX7_isLeft_39 : decode cX7_isLeft 39 = .ok (.iconst 0, 1) := by decide +kernel
theorem dX7_isLeft_40 : decode cX7_isLeft 40 = .ok (.ireturn, 1) := by decide +kernel
set_option maxRecDepth 20000 in
theorem ggX7_isTurned_X7_knows : GoodIn wsX7_isTurned wsX7_knows := goodIn_r _ [5, 6, 7, 8, 9, 4, 10, 11, 12, 13, 14, 41, 42, 43, 44, 45, 46, 47, 48, 49, 50, 51, 52, 53] (by decide +kernel) (by decide +kernel)
set_option maxRecDepth 20000 in
theorem gX7_isTurned_X7_knows : GoodIn wsX7_isTurned (wsV RX7 146 RX7 yX7_knows wsX7_knows) := goodIn_app (goodIn_of _ (by decide +kernel)) ggX7_isTurned_X7_knows
set_option maxRecDepth 20000 in
theorem ggX7_isTurned_X7_isLeft : GoodIn wsX7_isTurned wsX7_isLeft := goodIn_r _ [18, 19, 20, 21, 4, 22, 11, 23, 24, 25, 26, 27, 28, 29, 30, 31, 32, 33, 34, 35, 36, 37, 12, 13, 14, 38, 39, 40, 41, 42, 43, 44, 45, 46, 47, 48, 49, 50, 51, 52, 53] (by decide +kernel) (by decide +kernel)
set_option maxRecDepth 20000 in
theorem gX7_isTurned_X7_isLeft : GoodIn wsX7_isTurned (wsV RX7 157 RX7 yX7_isLeft wsX7_isLeft) := goodIn_app (goodIn_of _ (by decide +kernel)) ggX7_isTurned_X7_isLeft
theorem dX7_isTurned_0 : decode cX7_isTurned 0 = .ok (.aload_n 0, 1) := by decide +kernel
theorem dX7_isTurned_1 : decode cX7_isTurned 1 = .ok (.iload_n 1, 1) := by decide +kernel
theorem dX7_isTurned_2 : decode cX7_isTurned 2 = .ok (.invokevirtual 146, 3) := by decide +kernel
theorem dX7_isTurned_5 : decode cX7_isTurned 5 = .ok (.ifCond .eq 15, 3) := by decide +kernel
theorem dX7_isTurned_8 : decode cX7_isTurned 8 = .ok (.aload_n 0, 1) := by decide +kernel
theorem dX7_isTurned_9 : decode cX7_isTurned 9 = .ok (.iload_n 1, 1) := by decide +kernel
theorem dX7_isTurned_10 : decode cX7_isTurned 10 = .ok (.invokevirtual 157, 3) := by decide +kernel
theorem dX7_isTurned_13 : decode cX7_isTurned 13 = .ok (.ifCond .eq 7, 3) := by decide +kernel
theorem dX7_isTurned_16 : decode cX7_isTurned 16 = .ok (.iconst 1, 1) := by decide +kernel
theorem dX7_isTurned_17 : decode cX7_isTurned 17 = .ok (.goto 4, 3) := by decide +kernel
theorem dX7_isTurned_20 : decode cX7_isTurned 20 = .ok (.iconst 0, 1) := by decide +kernel
theorem dX7_isTurned_21 : decode cX7_isTurned 21 = .ok (.ireturn, 1) := by decide +kernel
set_option maxRecDepth 20000 in
theorem ggX7_readFrom_X7_knows : GoodIn wsX7_readFrom wsX7_knows := goodIn_r _ [5, 6, 7, 8, 9, 4, 10, 11, 12, 13, 14, 41, 42, 43, 44, 45, 46, 47, 48, 49, 50, 51, 52, 53] (by decide +kernel) (by decide +kernel)
set_option maxRecDepth 20000 in
theorem gX7_readFrom_X7_knows : GoodIn wsX7_readFrom (wsV RX7 146 RX7 yX7_knows wsX7_knows) := goodIn_app (goodIn_of _ (by decide +kernel)) ggX7_readFrom_X7_knows
set_option maxRecDepth 20000 in
theorem ggX7_readFrom_X7_of : GoodIn wsX7_readFrom wsX7_of := goodIn_r _ [18, 11, 41, 42, 43, 44, 45, 46, 47, 48, 49, 50, 51, 52, 53] (by decide +kernel) (by decide +kernel)
set_option maxRecDepth 20000 in
theorem gX7_readFrom_X7_of : GoodIn wsX7_readFrom (wsV RX7 37 RX7 yX7_of wsX7_of) := goodIn_app (goodIn_of _ (by decide +kernel)) ggX7_readFrom_X7_of
set_option maxRecDepth 20000 in
theorem ggX7_readFrom_X7_isLeft : GoodIn wsX7_readFrom wsX7_isLeft := goodIn_r _ [22, 15, 16, 17, 4, 18, 11, 23, 24, 25, 26, 27, 28, 29, 30, 31, 32, 33, 34, 35, 36, 37, 12, 13, 14, 38, 39, 40, 41, 42, 43, 44, 45, 46, 47, 48, 49, 50, 51, 52, 53] (by decide +kernel) (by decide +kernel)
set_option maxRecDepth 20000 in
theorem gX7_readFrom_X7_isLeft : GoodIn wsX7_readFrom (wsV RX7 157 RX7 yX7_isLeft wsX7_isLeft) := goodIn_app (goodIn_of _ (by decide +kernel)) ggX7_readFrom_X7_isLeft
set_option maxRecDepth 20000 in
theorem ggX7_readFrom_X7_labelEnd : GoodIn wsX7_readFrom wsX7_labelEnd := goodIn_r _ [26, 15, 16, 17, 4, 18, 11, 27, 28, 29, 30, 31, 32, 33, 34, 35, 36, 37, 12, 13, 14, 38, 39, 40, 41, 42, 43, 44, 45, 46, 47, 48, 49, 50, 51, 52, 53] (by decide +kernel) (by decide +kernel)
set_option maxRecDepth 20000 in
theorem gX7_readFrom_X7_labelEnd : GoodIn wsX7_readFrom (wsV RX7 154 RX7 yX7_labelEnd wsX7_labelEnd) := goodIn_app (goodIn_of _ (by decide +kernel)) ggX7_readFrom_X7_labelEnd
set_option maxRecDepth 20000 in
theorem ggX7_readFrom_X7_at : GoodIn wsX7_readFrom wsX7_at := goodIn_r _ [34, 15, 16, 17, 4, 18, 11, 35, 36, 37, 12, 13, 14, 38, 39, 40, 41, 42, 43, 44, 45, 46, 47, 48, 49, 50, 51, 52, 53] (by decide +kernel) (by decide +kernel)
set_option maxRecDepth 20000 in
theorem gX7_readFrom_X7_at : GoodIn wsX7_readFrom (wsV RX7 41 RX7 yX7_at wsX7_at) := goodIn_app (goodIn_of _ (by decide +kernel)) ggX7_readFrom_X7_at
theorem dX7_readFrom_0 : decode cX7_readFrom 0 = .ok (.aload_n 0, 1) := by decide +kernel
theorem dX7_readFrom_1 : decode cX7_readFrom 1 = .ok (.iload_n 1, 1) := by decide +kernel
theorem dX7_readFrom_2 : decode cX7_readFrom 2 = .ok (.invokevirtual 146, 3) := by decide +kernel
theorem dX7_readFrom_5 : decode cX7_readFrom 5 = .ok (.ifCond .ne 5, 3) := by decide +kernel
theorem dX7_readFrom_8 : decode cX7_readFrom 8 = .ok (.iconst 0, 1) := by decide +kernel
theorem dX7_readFrom_9 : decode cX7_readFrom 9 = .ok (.ireturn, 1) := by decide +kernel
theorem dX7_readFrom_10 : decode cX7_readFrom 10 = .ok (.aload_n 0, 1) := by decide +kernel
theorem dX7_readFrom_11 : decode cX7_readFrom 11 = .ok (.iload_n 1, 1) := by decide +kernel
theorem dX7_readFrom_12 : decode cX7_readFrom 12 = .ok (.iconst 3, 1) := by decide +kernel
theorem dX7_readFrom_13 : decode cX7_readFrom 13 = .ok (.invokevirtual 37, 3) := by decide +kernel
theorem dX7_readFrom_16 : decode cX7_readFrom 16 = .ok (.iconst (-1), 1) := by decide +kernel
theorem dX7_readFrom_17 : decode cX7_readFrom 17 = .ok (.if_icmp .ne 7, 3) := by decide +kernel
theorem dX7_readFrom_20 : decode cX7_readFrom 20 = .ok (.iconst (-1), 1) := by decide +kernel
theorem dX7_readFrom_21 : decode cX7_readFrom 21 = .ok (.goto 30, 3) := by decide +kernel
theorem dX7_readFrom_24 : decode cX7_readFrom 24 = .ok (.aload_n 0, 1) := by decide +kernel
theorem dX7_readFrom_25 : decode cX7_readFrom 25 = .ok (.iload_n 1, 1) := by decide +kernel
theorem dX7_readFrom_26 : decode cX7_readFrom 26 = .ok (.invokevirtual 157, 3) := by decide +kernel
theorem dX7_readFrom_29 : decode cX7_readFrom 29 = .ok (.ifCond .eq 11, 3) := by decide +kernel
theorem dX7_readFrom_32 : decode cX7_readFrom 32 = .ok (.aload_n 0, 1) := by decide +kernel
theorem dX7_readFrom_33 : decode cX7_readFrom 33 = .ok (.iload_n 1, 1) := by decide +kernel
theorem dX7_readFrom_34 : decode cX7_readFrom 34 = .ok (.invokevirtual 154, 3) := by decide +kernel
theorem dX7_readFrom_37 : decode cX7_readFrom 37 = .ok (.goto 14, 3) := by decide +kernel
theorem dX7_readFrom_40 : decode cX7_readFrom 40 = .ok (.aload_n 0, 1) := by decide +kernel
theorem dX7_readFrom_41 : decode cX7_readFrom 41 = .ok (.iload_n 1, 1) := by decide +kernel
theorem dX7_readFrom_42 : decode cX7_readFrom 42 = .ok (.aload_n 0, 1) := by decide +kernel
theorem dX7_readFrom_43 : decode cX7_readFrom 43 = .ok (.iload_n 1, 1) := by decide +kernel
theorem dX7_readFrom_44 : decode cX7_readFrom 44 = .ok (.iconst 3, 1) := by decide +kernel
theorem dX7_readFrom_45 : decode cX7_readFrom 45 = .ok (.invokevirtual 37, 3) := by decide +kernel
theorem dX7_readFrom_48 : decode cX7_readFrom 48 = .ok (.invokevirtual 41, 3) := by decide +kernel
theorem dX7_readFrom_51 : decode cX7_readFrom 51 = .ok (.ireturn, 1) := by decide +kernel
set_option maxRecDepth 20000 in
theorem ggX7_sizeOf_X7_knows : GoodIn wsX7_sizeOf wsX7_knows := goodIn_r _ [5, 6, 7, 8, 9, 4, 10, 11, 12, 13, 14, 23, 24, 25, 26, 27, 28, 29, 30, 31, 32, 33, 34, 35] (by decide +kernel) (by decide +kernel)
set_option maxRecDepth 20000 in
theorem gX7_sizeOf_X7_knows : GoodIn wsX7_sizeOf (wsV RX7 146 RX7 yX7_knows wsX7_knows) := goodIn_app (goodIn_of _ (by decide +kernel)) ggX7_sizeOf_X7_knows
set_option maxRecDepth 20000 in
theorem ggX7_sizeOf_X7_size : GoodIn wsX7_sizeOf wsX7_size := goodIn_r _ [18, 19, 20, 21, 4, 22, 11, 23, 24, 25, 26, 27, 28, 29, 30, 31, 32, 33, 34, 35] (by decide +kernel) (by decide +kernel)
set_option maxRecDepth 20000 in
theorem gX7_sizeOf_X7_size : GoodIn wsX7_sizeOf (wsV RX7 67 RX7 yX7_size wsX7_size) := goodIn_app (goodIn_of _ (by decide +kernel)) ggX7_sizeOf_X7_size
theorem dX7_sizeOf_0 : decode cX7_sizeOf 0 = .ok (.aload_n 0, 1) := by decide +kernel
theorem dX7_sizeOf_1 : decode cX7_sizeOf 1 = .ok (.iload_n 1, 1) := by decide +kernel
theorem dX7_sizeOf_2 : decode cX7_sizeOf 2 = .ok (.invokevirtual 146, 3) := by decide +kernel
theorem dX7_sizeOf_5 : decode cX7_sizeOf 5 = .ok (.ifCond .eq 11, 3) := by decide +kernel
theorem dX7_sizeOf_8 : decode cX7_sizeOf 8 = .ok (.aload_n 0, 1) := by decide +kernel
theorem dX7_sizeOf_9 : decode cX7_sizeOf 9 = .ok (.iload_n 1, 1) := by decide +kernel
theorem dX7_sizeOf_10 : decode cX7_sizeOf 10 = .ok (.invokevirtual 67, 3) := by decide +kernel
theorem dX7_sizeOf_13 : decode cX7_sizeOf 13 = .ok (.goto 4, 3) := by decide +kernel
theorem dX7_sizeOf_16 : decode cX7_sizeOf 16 = .ok (.iconst 0, 1) := by decide +kernel
theorem dX7_sizeOf_17 : decode cX7_sizeOf 17 = .ok (.ireturn, 1) := by decide +kernel
set_option maxRecDepth 20000 in
theorem ggX7_bendOf_X7_has : GoodIn wsX7_bendOf wsX7_has := goodIn_r _ [5, 6, 7, 8, 9, 4, 10, 11, 12, 13, 14, 15, 16, 17, 18, 59, 60, 61, 62, 63, 64, 65, 66, 67, 68, 69, 70, 71] (by decide +kernel) (by decide +kernel)
set_option maxRecDepth 20000 in
theorem gX7_bendOf_X7_has : GoodIn wsX7_bendOf (wsV RX7 143 RX7 yX7_has wsX7_has) := goodIn_app (goodIn_of _ (by decide +kernel)) ggX7_bendOf_X7_has
set_option maxRecDepth 20000 in
theorem ggX7_bendOf_X7_isPlace : GoodIn wsX7_bendOf wsX7_isPlace := goodIn_r _ [22, 23, 24, 25, 4, 26, 15, 16, 17, 18, 11, 27, 28, 29, 30, 31, 32, 33, 34, 35, 36, 37, 38, 39, 40, 41, 12, 13, 14, 42, 43, 44, 59, 60, 61, 62, 63, 64, 65, 66, 67, 68, 69, 70, 71] (by decide +kernel) (by decide +kernel)
set_option maxRecDepth 20000 in
theorem gX7_bendOf_X7_isPlace : GoodIn wsX7_bendOf (wsV RX7 80 RX7 yX7_isPlace wsX7_isPlace) := goodIn_app (goodIn_of _ (by decide +kernel)) ggX7_bendOf_X7_isPlace
set_option maxRecDepth 20000 in
theorem ggX7_bendOf_X7_bends : GoodIn wsX7_bendOf wsX7_bends := goodIn_r _ [48, 23, 24, 25, 4, 26, 15, 16, 17, 18, 11, 12, 13, 14, 49, 50, 51, 52, 53, 54, 55, 56, 57, 58, 27, 28, 29, 30, 31, 32, 33, 34, 35, 36, 37, 38, 39, 40, 41, 42, 43, 44, 59, 60, 61, 62, 63, 64, 65, 66, 67, 68, 69, 70, 71] (by decide +kernel) (by decide +kernel)
set_option maxRecDepth 20000 in
theorem gX7_bendOf_X7_bends : GoodIn wsX7_bendOf (wsV RX7 83 RX7 yX7_bends wsX7_bends) := goodIn_app (goodIn_of _ (by decide +kernel)) ggX7_bendOf_X7_bends
theorem dX7_bendOf_0 : decode cX7_bendOf 0 = .ok (.aload_n 0, 1) := by decide +kernel
theorem dX7_bendOf_1 : decode cX7_bendOf 1 = .ok (.iload_n 1, 1) := by decide +kernel
theorem dX7_bendOf_2 : decode cX7_bendOf 2 = .ok (.iload_n 2, 1) := by decide +kernel
theorem dX7_bendOf_3 : decode cX7_bendOf 3 = .ok (.invokevirtual 143, 3) := by decide +kernel
theorem dX7_bendOf_6 : decode cX7_bendOf 6 = .ok (.ifCond .ne 5, 3) := by decide +kernel
theorem dX7_bendOf_9 : decode cX7_bendOf 9 = .ok (.iconst 0, 1) := by decide +kernel
theorem dX7_bendOf_10 : decode cX7_bendOf 10 = .ok (.ireturn, 1) := by decide +kernel
theorem dX7_bendOf_11 : decode cX7_bendOf 11 = .ok (.aload_n 0, 1) := by decide +kernel
theorem dX7_bendOf_12 : decode cX7_bendOf 12 = .ok (.iload_n 1, 1) := by decide +kernel
theorem dX7_bendOf_13 : decode cX7_bendOf 13 = .ok (.iload_n 2, 1) := by decide +kernel
theorem dX7_bendOf_14 : decode cX7_bendOf 14 = .ok (.invokevirtual 80, 3) := by decide +kernel
theorem dX7_bendOf_17 : decode cX7_bendOf 17 = .ok (.ifCond .eq 12, 3) := by decide +kernel
theorem dX7_bendOf_20 : decode cX7_bendOf 20 = .ok (.aload_n 0, 1) := by decide +kernel
theorem dX7_bendOf_21 : decode cX7_bendOf 21 = .ok (.iload_n 1, 1) := by decide +kernel
theorem dX7_bendOf_22 : decode cX7_bendOf 22 = .ok (.iload_n 2, 1) := by decide +kernel
theorem dX7_bendOf_23 : decode cX7_bendOf 23 = .ok (.invokevirtual 83, 3) := by decide +kernel
theorem dX7_bendOf_26 : decode cX7_bendOf 26 = .ok (.goto 4, 3) := by decide +kernel
theorem dX7_bendOf_29 : decode cX7_bendOf 29 = .ok (.iconst (-1), 1) := by decide +kernel
theorem dX7_bendOf_30 : decode cX7_bendOf 30 = .ok (.ireturn, 1) := by decide +kernel
set_option maxRecDepth 20000 in
theorem ggX7_whyNotLabelled_X7_has : GoodIn wsX7_whyNotLabelled wsX7_has := goodIn_r _ [5, 6, 7, 8, 9, 4, 10, 11, 12, 13, 14, 15, 16, 17, 18, 75, 76, 77, 78, 79, 80, 81, 82, 83, 84, 85, 86, 87] (by decide +kernel) (by decide +kernel)
set_option maxRecDepth 20000 in
theorem gX7_whyNotLabelled_X7_has : GoodIn wsX7_whyNotLabelled (wsV RX7 143 RX7 yX7_has wsX7_has) := goodIn_app (goodIn_of _ (by decide +kernel)) ggX7_whyNotLabelled_X7_has
set_option maxRecDepth 20000 in
theorem ggX7_whyNotLabelled_X7_whyNoLabel : GoodIn wsX7_whyNotLabelled wsX7_whyNoLabel := goodIn_r _ [22, 11, 23, 24, 25, 4, 26, 27, 28, 29, 30, 15, 16, 17, 18, 31, 32, 33, 34, 35, 36, 37, 38, 39, 40, 41, 42, 43, 44, 45, 12, 13, 14, 46, 47, 48, 49, 50, 51, 52, 53, 54, 55, 56, 57, 58, 59, 60, 61, 62, 63, 64, 65, 66, 67, 68, 69, 70, 71, 72, 73, 74, 75, 76, 77, 78, 79, 80, 81, 82, 83, 84, 85, 86, 87] (by decide +kernel) (by decide +kernel)
set_option maxRecDepth 20000 in
theorem gX7_whyNotLabelled_X7_whyNoLabel : GoodIn wsX7_whyNotLabelled (wsV RX7 89 RX7 yX7_whyNoLabel wsX7_whyNoLabel) := goodIn_app (goodIn_of _ (by decide +kernel)) ggX7_whyNotLabelled_X7_whyNoLabel
theorem dX7_whyNotLabelled_0 : decode cX7_whyNotLabelled 0 = .ok (.aload_n 0, 1) := by decide +kernel
theorem dX7_whyNotLabelled_1 : decode cX7_whyNotLabelled 1 = .ok (.iload_n 1, 1) := by decide +kernel
theorem dX7_whyNotLabelled_2 : decode cX7_whyNotLabelled 2 = .ok (.iload_n 2, 1) := by decide +kernel
theorem dX7_whyNotLabelled_3 : decode cX7_whyNotLabelled 3 = .ok (.invokevirtual 143, 3) := by decide +kernel
theorem dX7_whyNotLabelled_6 : decode cX7_whyNotLabelled 6 = .ok (.ifCond .eq 12, 3) := by decide +kernel
theorem dX7_whyNotLabelled_9 : decode cX7_whyNotLabelled 9 = .ok (.aload_n 0, 1) := by decide +kernel
theorem dX7_whyNotLabelled_10 : decode cX7_whyNotLabelled 10 = .ok (.iload_n 1, 1) := by decide +kernel
theorem dX7_whyNotLabelled_11 : decode cX7_whyNotLabelled 11 = .ok (.iload_n 2, 1) := by decide +kernel
theorem dX7_whyNotLabelled_12 : decode cX7_whyNotLabelled 12 = .ok (.invokevirtual 89, 3) := by decide +kernel
theorem dX7_whyNotLabelled_15 : decode cX7_whyNotLabelled 15 = .ok (.goto 4, 3) := by decide +kernel
theorem dX7_whyNotLabelled_18 : decode cX7_whyNotLabelled 18 = .ok (.iconst 0, 1) := by decide +kernel
theorem dX7_whyNotLabelled_19 : decode cX7_whyNotLabelled 19 = .ok (.ireturn, 1) := by decide +kernel
set_option maxRecDepth 20000 in
theorem ggX7_placesOf_X7_knows : GoodIn wsX7_placesOf wsX7_knows := goodIn_r _ [5, 6, 7, 8, 9, 4, 10, 11, 12, 13, 14, 75, 76, 77, 78, 79, 80, 81, 82, 83, 84, 85, 86, 87] (by decide +kernel) (by decide +kernel)
set_option maxRecDepth 20000 in
theorem gX7_placesOf_X7_knows : GoodIn wsX7_placesOf (wsV RX7 146 RX7 yX7_knows wsX7_knows) := goodIn_app (goodIn_of _ (by decide +kernel)) ggX7_placesOf_X7_knows
set_option maxRecDepth 20000 in
theorem ggX7_placesOf_X7_of : GoodIn wsX7_placesOf wsX7_of := goodIn_r _ [18, 11, 75, 76, 77, 78, 79, 80, 81, 82, 83, 84, 85, 86, 87] (by decide +kernel) (by decide +kernel)
set_option maxRecDepth 20000 in
theorem gX7_placesOf_X7_of : GoodIn wsX7_placesOf (wsV RX7 37 RX7 yX7_of wsX7_of) := goodIn_app (goodIn_of _ (by decide +kernel)) ggX7_placesOf_X7_of
set_option maxRecDepth 20000 in
theorem ggX7_placesOf_X7_whyNoLabel : GoodIn wsX7_placesOf wsX7_whyNoLabel := goodIn_r _ [22, 11, 23, 24, 25, 4, 26, 27, 28, 29, 30, 15, 16, 17, 18, 31, 32, 33, 34, 35, 36, 37, 38, 39, 40, 41, 42, 43, 44, 45, 12, 13, 14, 46, 47, 48, 49, 50, 51, 52, 53, 54, 55, 56, 57, 58, 59, 60, 61, 62, 63, 64, 65, 66, 67, 68, 69, 70, 71, 72, 73, 74, 75, 76, 77, 78, 79, 80, 81, 82, 83, 84, 85, 86, 87] (by decide +kernel) (by decide +kernel)
set_option maxRecDepth 20000 in
theorem gX7_placesOf_X7_whyNoLabel : GoodIn wsX7_placesOf (wsV RX7 89 RX7 yX7_whyNoLabel wsX7_whyNoLabel) := goodIn_app (goodIn_of _ (by decide +kernel)) ggX7_placesOf_X7_whyNoLabel
theorem dX7_placesOf_0 : decode cX7_placesOf 0 = .ok (.iconst 0, 1) := by decide +kernel
theorem dX7_placesOf_1 : decode cX7_placesOf 1 = .ok (.istore_n 2, 1) := by decide +kernel
theorem dX7_placesOf_2 : decode cX7_placesOf 2 = .ok (.aload_n 0, 1) := by decide +kernel
theorem dX7_placesOf_3 : decode cX7_placesOf 3 = .ok (.iload_n 1, 1) := by decide +kernel
theorem dX7_placesOf_4 : decode cX7_placesOf 4 = .ok (.invokevirtual 146, 3) := by decide +kernel
theorem dX7_placesOf_7 : decode cX7_placesOf 7 = .ok (.istore_n 3, 1) := by decide +kernel
theorem dX7_placesOf_8 : decode cX7_placesOf 8 = .ok (.iconst 0, 1) := by decide +kernel
theorem dX7_placesOf_9 : decode cX7_placesOf 9 = .ok (.istore 4, 2) := by decide +kernel
theorem dX7_placesOf_11 : decode cX7_placesOf 11 = .ok (.iload 4, 2) := by decide +kernel
theorem dX7_placesOf_13 : decode cX7_placesOf 13 = .ok (.iload_n 3, 1) := by decide +kernel
theorem dX7_placesOf_14 : decode cX7_placesOf 14 = .ok (.ifCond .eq 12, 3) := by decide +kernel
theorem dX7_placesOf_17 : decode cX7_placesOf 17 = .ok (.aload_n 0, 1) := by decide +kernel
theorem dX7_placesOf_18 : decode cX7_placesOf 18 = .ok (.iload_n 1, 1) := by decide +kernel
theorem dX7_placesOf_19 : decode cX7_placesOf 19 = .ok (.iconst 2, 1) := by decide +kernel
theorem dX7_placesOf_20 : decode cX7_placesOf 20 = .ok (.invokevirtual 37, 3) := by decide +kernel
theorem dX7_placesOf_23 : decode cX7_placesOf 23 = .ok (.goto 4, 3) := by decide +kernel
theorem dX7_placesOf_26 : decode cX7_placesOf 26 = .ok (.iconst (-1), 1) := by decide +kernel
theorem dX7_placesOf_27 : decode cX7_placesOf 27 = .ok (.if_icmp .gt 27, 3) := by decide +kernel
theorem dX7_placesOf_30 : decode cX7_placesOf 30 = .ok (.iload_n 2, 1) := by decide +kernel
theorem dX7_placesOf_31 : decode cX7_placesOf 31 = .ok (.aload_n 0, 1) := by decide +kernel
theorem dX7_placesOf_32 : decode cX7_placesOf 32 = .ok (.iload_n 1, 1) := by decide +kernel
theorem dX7_placesOf_33 : decode cX7_placesOf 33 = .ok (.iload 4, 2) := by decide +kernel
theorem dX7_placesOf_35 : decode cX7_placesOf 35 = .ok (.invokevirtual 89, 3) := by decide +kernel
theorem dX7_placesOf_38 : decode cX7_placesOf 38 = .ok (.ifCond .ne 7, 3) := by decide +kernel
theorem dX7_placesOf_41 : decode cX7_placesOf 41 = .ok (.iconst 1, 1) := by decide +kernel
theorem dX7_placesOf_42 : decode cX7_placesOf 42 = .ok (.goto 4, 3) := by decide +kernel
theorem dX7_placesOf_45 : decode cX7_placesOf 45 = .ok (.iconst 0, 1) := by decide +kernel
theorem dX7_placesOf_46 : decode cX7_placesOf 46 = .ok (.iadd, 1) := by decide +kernel
theorem dX7_placesOf_47 : decode cX7_placesOf 47 = .ok (.istore_n 2, 1) := by decide +kernel
theorem dX7_placesOf_48 : decode cX7_placesOf 48 = .ok (.iinc 4 1, 3) := by decide +kernel
theorem dX7_placesOf_51 : decode cX7_placesOf 51 = .ok (.goto (-40), 3) := by decide +kernel
theorem dX7_placesOf_54 : decode cX7_placesOf 54 = .ok (.iload_n 2, 1) := by decide +kernel
theorem dX7_placesOf_55 : decode cX7_placesOf 55 = .ok (.ireturn, 1) := by decide +kernel
set_option maxRecDepth 20000 in
theorem ggX7_bestPlace_X7_knows : GoodIn wsX7_bestPlace wsX7_knows := goodIn_r _ [5, 6, 7, 8, 9, 4, 10, 11, 12, 13, 14, 79, 80, 81, 82, 83, 84, 85, 86, 87, 88, 89, 90, 91] (by decide +kernel) (by decide +kernel)
set_option maxRecDepth 20000 in
theorem gX7_bestPlace_X7_knows : GoodIn wsX7_bestPlace (wsV RX7 146 RX7 yX7_knows wsX7_knows) := goodIn_app (goodIn_of _ (by decide +kernel)) ggX7_bestPlace_X7_knows
set_option maxRecDepth 20000 in
theorem ggX7_bestPlace_X7_best : GoodIn wsX7_bestPlace wsX7_best := goodIn_r _ [18, 19, 20, 21, 4, 22, 11, 23, 24, 25, 26, 27, 28, 29, 30, 31, 32, 33, 34, 35, 36, 37, 38, 39, 40, 41, 42, 43, 44, 45, 46, 47, 48, 49, 12, 13, 14, 50, 51, 52, 53, 54, 55, 56, 57, 58, 59, 60, 61, 62, 63, 64, 65, 66, 67, 68, 69, 70, 71, 72, 73, 74, 75, 76, 77, 78, 79, 80, 81, 82, 83, 84, 85, 86, 87, 88, 89, 90, 91] (by decide +kernel) (by decide +kernel)
set_option maxRecDepth 20000 in
theorem gX7_bestPlace_X7_best : GoodIn wsX7_bestPlace (wsV RX7 104 RX7 yX7_best wsX7_best) := goodIn_app (goodIn_of _ (by decide +kernel)) ggX7_bestPlace_X7_best
theorem dX7_bestPlace_0 : decode cX7_bestPlace 0 = .ok (.aload_n 0, 1) := by decide +kernel
theorem dX7_bestPlace_1 : decode cX7_bestPlace 1 = .ok (.iload_n 1, 1) := by decide +kernel
theorem dX7_bestPlace_2 : decode cX7_bestPlace 2 = .ok (.invokevirtual 146, 3) := by decide +kernel
theorem dX7_bestPlace_5 : decode cX7_bestPlace 5 = .ok (.ifCond .eq 11, 3) := by decide +kernel
theorem dX7_bestPlace_8 : decode cX7_bestPlace 8 = .ok (.aload_n 0, 1) := by decide +kernel
theorem dX7_bestPlace_9 : decode cX7_bestPlace 9 = .ok (.iload_n 1, 1) := by decide +kernel
theorem dX7_bestPlace_10 : decode cX7_bestPlace 10 = .ok (.invokevirtual 104, 3) := by decide +kernel
theorem dX7_bestPlace_13 : decode cX7_bestPlace 13 = .ok (.goto 4, 3) := by decide +kernel
theorem dX7_bestPlace_16 : decode cX7_bestPlace 16 = .ok (.iconst 0, 1) := by decide +kernel
theorem dX7_bestPlace_17 : decode cX7_bestPlace 17 = .ok (.ireturn, 1) := by decide +kernel
set_option maxRecDepth 20000 in
theorem ggX7_tooNear_X7_of : GoodIn wsX7_tooNear wsX7_of := goodIn_r _ [7, 2, 36, 37, 38, 39, 40, 41, 42, 43, 44, 45, 46, 47, 48] (by decide +kernel) (by decide +kernel)
set_option maxRecDepth 20000 in
theorem gX7_tooNear_X7_of : GoodIn wsX7_tooNear (wsV RX7 37 RX7 yX7_of wsX7_of) := goodIn_app (goodIn_of _ (by decide +kernel)) ggX7_tooNear_X7_of
set_option maxRecDepth 20000 in
theorem ggX7_tooNear_X7_between : GoodIn wsX7_tooNear wsX7_between := goodIn_r _ [11, 12, 13, 14, 6, 15, 3, 4, 5, 7, 2, 16, 17, 18, 19, 20, 21, 22, 23, 24, 25, 26, 27, 28, 29, 30, 31, 32, 33, 34, 35, 36, 37, 38, 39, 40, 41, 42, 43, 44, 45, 46, 47, 48] (by decide +kernel) (by decide +kernel)
set_option maxRecDepth 20000 in
theorem gX7_tooNear_X7_between : GoodIn wsX7_tooNear (wsV RX7 76 RX7 yX7_between wsX7_between) := goodIn_app (goodIn_of _ (by decide +kernel)) ggX7_tooNear_X7_between
theorem dX7_tooNear_0 : decode cX7_tooNear 0 = .ok (.aload_n 0, 1) := by decide +kernel
theorem dX7_tooNear_1 : decode cX7_tooNear 1 = .ok (.iconst 0, 1) := by decide +kernel
theorem dX7_tooNear_2 : decode cX7_tooNear 2 = .ok (.putfield 22, 3) := by decide +kernel
theorem dX7_tooNear_5 : decode cX7_tooNear 5 = .ok (.iconst 0, 1) := by decide +kernel
theorem dX7_tooNear_6 : decode cX7_tooNear 6 = .ok (.istore_n 1, 1) := by decide +kernel
theorem dX7_tooNear_7 : decode cX7_tooNear 7 = .ok (.iconst 0, 1) := by decide +kernel
theorem dX7_tooNear_8 : decode cX7_tooNear 8 = .ok (.istore_n 2, 1) := by decide +kernel
theorem dX7_tooNear_9 : decode cX7_tooNear 9 = .ok (.iload_n 2, 1) := by decide +kernel
theorem dX7_tooNear_10 : decode cX7_tooNear 10 = .ok (.aload_n 0, 1) := by decide +kernel
theorem dX7_tooNear_11 : decode cX7_tooNear 11 = .ok (.getfield 7, 3) := by decide +kernel
theorem dX7_tooNear_14 : decode cX7_tooNear 14 = .ok (.iconst 0, 1) := by decide +kernel
theorem dX7_tooNear_15 : decode cX7_tooNear 15 = .ok (.iaload, 1) := by decide +kernel
theorem dX7_tooNear_16 : decode cX7_tooNear 16 = .ok (.if_icmp .ge 89, 3) := by decide +kernel
theorem dX7_tooNear_19 : decode cX7_tooNear 19 = .ok (.iconst 0, 1) := by decide +kernel
theorem dX7_tooNear_20 : decode cX7_tooNear 20 = .ok (.istore_n 3, 1) := by decide +kernel
theorem dX7_tooNear_21 : decode cX7_tooNear 21 = .ok (.iload_n 3, 1) := by decide +kernel
theorem dX7_tooNear_22 : decode cX7_tooNear 22 = .ok (.iload_n 2, 1) := by decide +kernel
theorem dX7_tooNear_23 : decode cX7_tooNear 23 = .ok (.if_icmp .ge 76, 3) := by decide +kernel
theorem dX7_tooNear_26 : decode cX7_tooNear 26 = .ok (.aload_n 0, 1) := by decide +kernel
theorem dX7_tooNear_27 : decode cX7_tooNear 27 = .ok (.iload_n 2, 1) := by decide +kernel
theorem dX7_tooNear_28 : decode cX7_tooNear 28 = .ok (.iconst 3, 1) := by decide +kernel
theorem dX7_tooNear_29 : decode cX7_tooNear 29 = .ok (.invokevirtual 37, 3) := by decide +kernel
theorem dX7_tooNear_32 : decode cX7_tooNear 32 = .ok (.iconst (-1), 1) := by decide +kernel
theorem dX7_tooNear_33 : decode cX7_tooNear 33 = .ok (.if_icmp .eq 17, 3) := by decide +kernel
theorem dX7_tooNear_36 : decode cX7_tooNear 36 = .ok (.aload_n 0, 1) := by decide +kernel
theorem dX7_tooNear_37 : decode cX7_tooNear 37 = .ok (.iload_n 3, 1) := by decide +kernel
theorem dX7_tooNear_38 : decode cX7_tooNear 38 = .ok (.iconst 3, 1) := by decide +kernel
theorem dX7_tooNear_39 : decode cX7_tooNear 39 = .ok (.invokevirtual 37, 3) := by decide +kernel
theorem dX7_tooNear_42 : decode cX7_tooNear 42 = .ok (.iconst (-1), 1) := by decide +kernel
theorem dX7_tooNear_43 : decode cX7_tooNear 43 = .ok (.if_icmp .eq 7, 3) := by decide +kernel
theorem dX7_tooNear_46 : decode cX7_tooNear 46 = .ok (.iconst 1, 1) := by decide +kernel
theorem dX7_tooNear_47 : decode cX7_tooNear 47 = .ok (.goto 4, 3) := by decide +kernel
theorem dX7_tooNear_50 : decode cX7_tooNear 50 = .ok (.iconst 0, 1) := by decide +kernel
theorem dX7_tooNear_51 : decode cX7_tooNear 51 = .ok (.istore 4, 2) := by decide +kernel
theorem dX7_tooNear_53 : decode cX7_tooNear 53 = .ok (.iload_n 1, 1) := by decide +kernel
theorem dX7_tooNear_54 : decode cX7_tooNear 54 = .ok (.iload 4, 2) := by decide +kernel
theorem dX7_tooNear_56 : decode cX7_tooNear 56 = .ok (.ifCond .eq 34, 3) := by decide +kernel
theorem dX7_tooNear_59 : decode cX7_tooNear 59 = .ok (.aload_n 0, 1) := by decide +kernel
theorem dX7_tooNear_60 : decode cX7_tooNear 60 = .ok (.iload_n 2, 1) := by decide +kernel
theorem dX7_tooNear_61 : decode cX7_tooNear 61 = .ok (.aload_n 0, 1) := by decide +kernel
theorem dX7_tooNear_62 : decode cX7_tooNear 62 = .ok (.iload_n 2, 1) := by decide +kernel
theorem dX7_tooNear_63 : decode cX7_tooNear 63 = .ok (.iconst 3, 1) := by decide +kernel
theorem dX7_tooNear_64 : decode cX7_tooNear 64 = .ok (.invokevirtual 37, 3) := by decide +kernel
theorem dX7_tooNear_67 : decode cX7_tooNear 67 = .ok (.iload_n 3, 1) := by decide +kernel
theorem dX7_tooNear_68 : decode cX7_tooNear 68 = .ok (.aload_n 0, 1) := by decide +kernel
theorem dX7_tooNear_69 : decode cX7_tooNear 69 = .ok (.iload_n 3, 1) := by decide +kernel
theorem dX7_tooNear_70 : decode cX7_tooNear 70 = .ok (.iconst 3, 1) := by decide +kernel
theorem dX7_tooNear_71 : decode cX7_tooNear 71 = .ok (.invokevirtual 37, 3) := by decide +kernel
theorem dX7_tooNear_74 : decode cX7_tooNear 74 = .ok (.invokevirtual 76, 3) := by decide +kernel
theorem dX7_tooNear_77 : decode cX7_tooNear 77 = .ok (.aload_n 0, 1) := by decide +kernel
theorem dX7_tooNear_78 : decode cX7_tooNear 78 = .ok (.getfield 7, 3) := by decide +kernel
theorem dX7_tooNear_81 : decode cX7_tooNear 81 = .ok (.iconst 1, 1) := by decide +kernel
theorem dX7_tooNear_82 : decode cX7_tooNear 82 = .ok (.iaload, 1) := by decide +kernel
theorem dX7_tooNear_83 : decode cX7_tooNear 83 = .ok (.if_icmp .ge 7, 3) := by decide +kernel
theorem dX7_tooNear_86 : decode cX7_tooNear 86 = .ok (.iconst 1, 1) := by decide +kernel
theorem dX7_tooNear_87 : decode cX7_tooNear 87 = .ok (.goto 4, 3) := by decide +kernel
theorem dX7_tooNear_90 : decode cX7_tooNear 90 = .ok (.iconst 0, 1) := by decide +kernel
theorem dX7_tooNear_91 : decode cX7_tooNear 91 = .ok (.iadd, 1) := by decide +kernel
theorem dX7_tooNear_92 : decode cX7_tooNear 92 = .ok (.istore_n 1, 1) := by decide +kernel
theorem dX7_tooNear_93 : decode cX7_tooNear 93 = .ok (.iinc 3 1, 3) := by decide +kernel
theorem dX7_tooNear_96 : decode cX7_tooNear 96 = .ok (.goto (-75), 3) := by decide +kernel
theorem dX7_tooNear_99 : decode cX7_tooNear 99 = .ok (.iinc 2 1, 3) := by decide +kernel
theorem dX7_tooNear_102 : decode cX7_tooNear 102 = .ok (.goto (-93), 3) := by decide +kernel
theorem dX7_tooNear_105 : decode cX7_tooNear 105 = .ok (.iload_n 1, 1) := by decide +kernel
theorem dX7_tooNear_106 : decode cX7_tooNear 106 = .ok (.ireturn, 1) := by decide +kernel
set_option maxRecDepth 20000 in
theorem ggX7_contains_X7_closes : GoodIn wsX7_contains wsX7_closes := goodIn_r _ [5, 6, 7, 8, 4, 9, 10, 11, 12, 13, 14, 15, 16, 17, 18, 19, 20, 21, 22, 23, 24, 25, 26, 27, 32, 33, 34, 35, 36, 37, 38, 39, 40, 41, 42, 43, 44] (by decide +kernel) (by decide +kernel)
set_option maxRecDepth 20000 in
theorem gX7_contains_X7_closes : GoodIn wsX7_contains (wsV RX7 47 RX7 yX7_closes wsX7_closes) := goodIn_app (goodIn_of _ (by decide +kernel)) ggX7_contains_X7_closes
set_option maxRecDepth 20000 in
theorem ggX7_contains_X7_owner : GoodIn wsX7_contains wsX7_owner := goodIn_r _ [31, 10, 6, 7, 8, 4, 9, 19, 20, 21, 22, 23, 24, 25, 26, 27, 32, 33, 34, 35, 36, 37, 38, 39, 40, 41, 42, 43, 44] (by decide +kernel) (by decide +kernel)
set_option maxRecDepth 20000 in
theorem gX7_contains_X7_owner : GoodIn wsX7_contains (wsV RX7 54 RX7 yX7_owner wsX7_owner) := goodIn_app (goodIn_of _ (by decide +kernel)) ggX7_contains_X7_owner
set_option maxRecDepth 20000 in
theorem ggX7_contains_X7_of : GoodIn wsX7_contains wsX7_of := goodIn_r _ [9, 10, 32, 33, 34, 35, 36, 37, 38, 39, 40, 41, 42, 43, 44] (by decide +kernel) (by decide +kernel)
set_option maxRecDepth 20000 in
theorem gX7_contains_X7_of : GoodIn wsX7_contains (wsV RX7 37 RX7 yX7_of wsX7_of) := goodIn_app (goodIn_of _ (by decide +kernel)) ggX7_contains_X7_of
set_option maxRecDepth 20000 in
theorem ggX7_contains_X7_down : GoodIn wsX7_contains wsX7_down := goodIn_r _ [21, 22, 23, 4, 24] (by decide +kernel) (by decide +kernel)
set_option maxRecDepth 20000 in
theorem gX7_contains_X7_down : GoodIn wsX7_contains (va_wsS RX7 34 yX7_down wsX7_down) := goodIn_app (goodIn_of _ (by decide +kernel)) ggX7_contains_X7_down
set_option maxRecDepth 20000 in
theorem ggX7_contains_X7_across : GoodIn wsX7_contains wsX7_across := goodIn_r _ [27] (by decide +kernel) (by decide +kernel)
set_option maxRecDepth 20000 in
theorem gX7_contains_X7_across : GoodIn wsX7_contains (va_wsS RX7 30 yX7_across wsX7_across) := goodIn_app (goodIn_of _ (by decide +kernel)) ggX7_contains_X7_across
theorem dX7_contains_0 : decode cX7_contains 0 = .ok (.aload_n 0, 1) := by decide +kernel
theorem dX7_contains_1 : decode cX7_contains 1 = .ok (.iload_n 1, 1) := by decide +kernel
theorem dX7_contains_2 : decode cX7_contains 2 = .ok (.invokevirtual 47, 3) := by decide +kernel
theorem dX7_contains_5 : decode cX7_contains 5 = .ok (.ifCond .eq 12, 3) := by decide +kernel
theorem dX7_contains_8 : decode cX7_contains 8 = .ok (.aload_n 0, 1) := by decide +kernel
theorem dX7_contains_9 : decode cX7_contains 9 = .ok (.iload_n 2, 1) := by decide +kernel
theorem dX7_contains_10 : decode cX7_contains 10 = .ok (.invokevirtual 54, 3) := by decide +kernel
theorem dX7_contains_13 : decode cX7_contains 13 = .ok (.iload_n 1, 1) := by decide +kernel
theorem dX7_contains_14 : decode cX7_contains 14 = .ok (.if_icmp .ne 5, 3) := by decide +kernel
theorem dX7_contains_17 : decode cX7_contains 17 = .ok (.iconst 0, 1) := by decide +kernel
theorem dX7_contains_18 : decode cX7_contains 18 = .ok (.ireturn, 1) := by decide +kernel
theorem dX7_contains_19 : decode cX7_contains 19 = .ok (.iconst 0, 1) := by decide +kernel
theorem dX7_contains_20 : decode cX7_contains 20 = .ok (.istore_n 3, 1) := by decide +kernel
theorem dX7_contains_21 : decode cX7_contains 21 = .ok (.aload_n 0, 1) := by decide +kernel
theorem dX7_contains_22 : decode cX7_contains 22 = .ok (.iload_n 1, 1) := by decide +kernel
theorem dX7_contains_23 : decode cX7_contains 23 = .ok (.iconst 1, 1) := by decide +kernel
theorem dX7_contains_24 : decode cX7_contains 24 = .ok (.invokevirtual 37, 3) := by decide +kernel
theorem dX7_contains_27 : decode cX7_contains 27 = .ok (.istore 4, 2) := by decide +kernel
theorem dX7_contains_29 : decode cX7_contains 29 = .ok (.iconst 0, 1) := by decide +kernel
theorem dX7_contains_30 : decode cX7_contains 30 = .ok (.istore 5, 2) := by decide +kernel
theorem dX7_contains_32 : decode cX7_contains 32 = .ok (.iload 5, 2) := by decide +kernel
theorem dX7_contains_34 : decode cX7_contains 34 = .ok (.aload_n 0, 1) := by decide +kernel
theorem dX7_contains_35 : decode cX7_contains 35 = .ok (.iload_n 1, 1) := by decide +kernel
theorem dX7_contains_36 : decode cX7_contains 36 = .ok (.iconst 2, 1) := by decide +kernel
theorem dX7_contains_37 : decode cX7_contains 37 = .ok (.invokevirtual 37, 3) := by decide +kernel
theorem dX7_contains_40 : decode cX7_contains 40 = .ok (.if_icmp .ge 126, 3) := by decide +kernel
theorem dX7_contains_43 : decode cX7_contains 43 = .ok (.iload 4, 2) := by decide +kernel
theorem dX7_contains_45 : decode cX7_contains 45 = .ok (.bipush 24, 2) := by decide +kernel
theorem dX7_contains_47 : decode cX7_contains 47 = .ok (.aload_n 0, 1) := by decide +kernel
theorem dX7_contains_48 : decode cX7_contains 48 = .ok (.iload_n 1, 1) := by decide +kernel
theorem dX7_contains_49 : decode cX7_contains 49 = .ok (.iconst 4, 1) := by decide +kernel
theorem dX7_contains_50 : decode cX7_contains 50 = .ok (.iload 5, 2) := by decide +kernel
theorem dX7_contains_52 : decode cX7_contains 52 = .ok (.iadd, 1) := by decide +kernel
theorem dX7_contains_53 : decode cX7_contains 53 = .ok (.invokevirtual 37, 3) := by decide +kernel
theorem dX7_contains_56 : decode cX7_contains 56 = .ok (.invokestatic 34, 3) := by decide +kernel
theorem dX7_contains_59 : decode cX7_contains 59 = .ok (.imul, 1) := by decide +kernel
theorem dX7_contains_60 : decode cX7_contains 60 = .ok (.iadd, 1) := by decide +kernel
theorem dX7_contains_61 : decode cX7_contains 61 = .ok (.aload_n 0, 1) := by decide +kernel
theorem dX7_contains_62 : decode cX7_contains 62 = .ok (.iload_n 1, 1) := by decide +kernel
theorem dX7_contains_63 : decode cX7_contains 63 = .ok (.iconst 4, 1) := by decide +kernel
theorem dX7_contains_64 : decode cX7_contains 64 = .ok (.iload 5, 2) := by decide +kernel
theorem dX7_contains_66 : decode cX7_contains 66 = .ok (.iadd, 1) := by decide +kernel
theorem dX7_contains_67 : decode cX7_contains 67 = .ok (.invokevirtual 37, 3) := by decide +kernel
theorem dX7_contains_70 : decode cX7_contains 70 = .ok (.invokestatic 30, 3) := by decide +kernel
theorem dX7_contains_73 : decode cX7_contains 73 = .ok (.iadd, 1) := by decide +kernel
theorem dX7_contains_74 : decode cX7_contains 74 = .ok (.istore 6, 2) := by decide +kernel
theorem dX7_contains_76 : decode cX7_contains 76 = .ok (.iload 4, 2) := by decide +kernel
theorem dX7_contains_78 : decode cX7_contains 78 = .ok (.iload 6, 2) := by decide +kernel
theorem dX7_contains_80 : decode cX7_contains 80 = .ok (.if_icmp .ge 8, 3) := by decide +kernel
theorem dX7_contains_83 : decode cX7_contains 83 = .ok (.iload 4, 2) := by decide +kernel
theorem dX7_contains_85 : decode cX7_contains 85 = .ok (.goto 5, 3) := by decide +kernel
theorem dX7_contains_88 : decode cX7_contains 88 = .ok (.iload 6, 2) := by decide +kernel
theorem dX7_contains_90 : decode cX7_contains 90 = .ok (.istore 7, 2) := by decide +kernel
theorem dX7_contains_92 : decode cX7_contains 92 = .ok (.iload 4, 2) := by decide +kernel
theorem dX7_contains_94 : decode cX7_contains 94 = .ok (.bipush 24, 2) := by decide +kernel
theorem dX7_contains_96 : decode cX7_contains 96 = .ok (.idiv, 1) := by decide +kernel
theorem dX7_contains_97 : decode cX7_contains 97 = .ok (.iload 6, 2) := by decide +kernel
theorem dX7_contains_99 : decode cX7_contains 99 = .ok (.bipush 24, 2) := by decide +kernel
theorem dX7_contains_101 : decode cX7_contains 101 = .ok (.idiv, 1) := by decide +kernel
theorem dX7_contains_102 : decode cX7_contains 102 = .ok (.if_icmp .eq 19, 3) := by decide +kernel
theorem dX7_contains_105 : decode cX7_contains 105 = .ok (.iload 7, 2) := by decide +kernel
theorem dX7_contains_107 : decode cX7_contains 107 = .ok (.bipush 24, 2) := by decide +kernel
theorem dX7_contains_109 : decode cX7_contains 109 = .ok (.idiv, 1) := by decide +kernel
theorem dX7_contains_110 : decode cX7_contains 110 = .ok (.iload_n 2, 1) := by decide +kernel
theorem dX7_contains_111 : decode cX7_contains 111 = .ok (.bipush 24, 2) := by decide +kernel
theorem dX7_contains_113 : decode cX7_contains 113 = .ok (.idiv, 1) := by decide +kernel
theorem dX7_contains_114 : decode cX7_contains 114 = .ok (.if_icmp .ne 7, 3) := by decide +kernel
theorem dX7_contains_117 : decode cX7_contains 117 = .ok (.iconst 1, 1) := by decide +kernel
theorem dX7_contains_118 : decode cX7_contains 118 = .ok (.goto 4, 3) := by decide +kernel
theorem dX7_contains_121 : decode cX7_contains 121 = .ok (.iconst 0, 1) := by decide +kernel
theorem dX7_contains_122 : decode cX7_contains 122 = .ok (.istore 8, 2) := by decide +kernel
theorem dX7_contains_124 : decode cX7_contains 124 = .ok (.iload_n 3, 1) := by decide +kernel
theorem dX7_contains_125 : decode cX7_contains 125 = .ok (.iload 8, 2) := by decide +kernel
theorem dX7_contains_127 : decode cX7_contains 127 = .ok (.ifCond .eq 19, 3) := by decide +kernel
theorem dX7_contains_130 : decode cX7_contains 130 = .ok (.iload 7, 2) := by decide +kernel
theorem dX7_contains_132 : decode cX7_contains 132 = .ok (.bipush 24, 2) := by decide +kernel
theorem dX7_contains_134 : decode cX7_contains 134 = .ok (.irem, 1) := by decide +kernel
theorem dX7_contains_135 : decode cX7_contains 135 = .ok (.iload_n 2, 1) := by decide +kernel
theorem dX7_contains_136 : decode cX7_contains 136 = .ok (.bipush 24, 2) := by decide +kernel
theorem dX7_contains_138 : decode cX7_contains 138 = .ok (.irem, 1) := by decide +kernel
theorem dX7_contains_139 : decode cX7_contains 139 = .ok (.if_icmp .le 7, 3) := by decide +kernel
theorem dX7_contains_142 : decode cX7_contains 142 = .ok (.iconst 1, 1) := by decide +kernel
theorem dX7_contains_143 : decode cX7_contains 143 = .ok (.goto 4, 3) := by decide +kernel
theorem dX7_contains_146 : decode cX7_contains 146 = .ok (.iconst 0, 1) := by decide +kernel
theorem dX7_contains_147 : decode cX7_contains 147 = .ok (.if_icmp .eq 7, 3) := by decide +kernel
theorem dX7_contains_150 : decode cX7_contains 150 = .ok (.iconst 1, 1) := by decide +kernel
theorem dX7_contains_151 : decode cX7_contains 151 = .ok (.goto 4, 3) := by decide +kernel
theorem dX7_contains_154 : decode cX7_contains 154 = .ok (.iconst 0, 1) := by decide +kernel
theorem dX7_contains_155 : decode cX7_contains 155 = .ok (.istore_n 3, 1) := by decide +kernel
theorem dX7_contains_156 : decode cX7_contains 156 = .ok (.iload 6, 2) := by decide +kernel
theorem dX7_contains_158 : decode cX7_contains 158 = .ok (.istore 4, 2) := by decide +kernel
theorem dX7_contains_160 : decode cX7_contains 160 = .ok (.iinc 5 1, 3) := by decide +kernel
theorem dX7_contains_163 : decode cX7_contains 163 = .ok (.goto (-131), 3) := by decide +kernel
theorem dX7_contains_166 : decode cX7_contains 166 = .ok (.iload_n 3, 1) := by decide +kernel
theorem dX7_contains_167 : decode cX7_contains 167 = .ok (.ireturn, 1) := by decide +kernel
set_option maxRecDepth 20000 in
theorem ggX7_isWithinByRays_X7_isLine : GoodIn wsX7_isWithinByRays wsX7_isLine := goodIn_r _ [6, 7, 8, 9, 5, 10, 44, 45, 46, 47, 48, 49, 50, 51, 52, 53, 54, 55, 56] (by decide +kernel) (by decide +kernel)
set_option maxRecDepth 20000 in
theorem gX7_isWithinByRays_X7_isLine : GoodIn wsX7_isWithinByRays (wsV RX7 98 RX7 yX7_isLine wsX7_isLine) := goodIn_app (goodIn_of _ (by decide +kernel)) ggX7_isWithinByRays_X7_isLine
set_option maxRecDepth 20000 in
theorem ggX7_isWithinByRays_X7_isPoint : GoodIn wsX7_isWithinByRays wsX7_isPoint := goodIn_r _ [13, 8, 9, 5, 10] (by decide +kernel) (by decide +kernel)
set_option maxRecDepth 20000 in
theorem gX7_isWithinByRays_X7_isPoint : GoodIn wsX7_isWithinByRays (va_wsS RX7 95 yX7_isPoint wsX7_isPoint) := goodIn_app (goodIn_of _ (by decide +kernel)) ggX7_isWithinByRays_X7_isPoint
set_option maxRecDepth 20000 in
theorem ggX7_isWithinByRays_X7_contains : GoodIn wsX7_isWithinByRays wsX7_contains := goodIn_r _ [17, 18, 19, 20, 5, 21, 22, 23, 24, 25, 7, 26, 27, 28, 29, 30, 31, 32, 33, 34, 35, 36, 8, 9, 10, 37, 38, 39, 40, 41, 42, 43, 44, 45, 46, 47, 48, 49, 50, 51, 52, 53, 54, 55, 56] (by decide +kernel) (by decide +kernel)
set_option maxRecDepth 20000 in
theorem gX7_isWithinByRays_X7_contains : GoodIn wsX7_isWithinByRays (wsV RX7 160 RX7 yX7_contains wsX7_contains) := goodIn_app (goodIn_of _ (by decide +kernel)) ggX7_isWithinByRays_X7_contains
theorem dX7_isWithinByRays_0 : decode cX7_isWithinByRays 0 = .ok (.aload_n 0, 1) := by decide +kernel
theorem dX7_isWithinByRays_1 : decode cX7_isWithinByRays 1 = .ok (.aload_n 0, 1) := by decide +kernel
theorem dX7_isWithinByRays_2 : decode cX7_isWithinByRays 2 = .ok (.iload_n 1, 1) := by decide +kernel
theorem dX7_isWithinByRays_3 : decode cX7_isWithinByRays 3 = .ok (.invokevirtual 98, 3) := by decide +kernel
theorem dX7_isWithinByRays_6 : decode cX7_isWithinByRays 6 = .ok (.ifCond .eq 14, 3) := by decide +kernel
theorem dX7_isWithinByRays_9 : decode cX7_isWithinByRays 9 = .ok (.iload_n 2, 1) := by decide +kernel
theorem dX7_isWithinByRays_10 : decode cX7_isWithinByRays 10 = .ok (.invokestatic 95, 3) := by decide +kernel
theorem dX7_isWithinByRays_13 : decode cX7_isWithinByRays 13 = .ok (.ifCond .eq 7, 3) := by decide +kernel
theorem dX7_isWithinByRays_16 : decode cX7_isWithinByRays 16 = .ok (.iconst 0, 1) := by decide +kernel
theorem dX7_isWithinByRays_17 : decode cX7_isWithinByRays 17 = .ok (.goto 4, 3) := by decide +kernel
theorem dX7_isWithinByRays_20 : decode cX7_isWithinByRays 20 = .ok (.iconst 1, 1) := by decide +kernel
theorem dX7_isWithinByRays_21 : decode cX7_isWithinByRays 21 = .ok (.putfield 22, 3) := by decide +kernel
theorem dX7_isWithinByRays_24 : decode cX7_isWithinByRays 24 = .ok (.aload_n 0, 1) := by decide +kernel
theorem dX7_isWithinByRays_25 : decode cX7_isWithinByRays 25 = .ok (.getfield 22, 3) := by decide +kernel
theorem dX7_isWithinByRays_28 : decode cX7_isWithinByRays 28 = .ok (.ifCond .ne 16, 3) := by decide +kernel
theorem dX7_isWithinByRays_31 : decode cX7_isWithinByRays 31 = .ok (.aload_n 0, 1) := by decide +kernel
theorem dX7_isWithinByRays_32 : decode cX7_isWithinByRays 32 = .ok (.iload_n 1, 1) := by decide +kernel
theorem dX7_isWithinByRays_33 : decode cX7_isWithinByRays 33 = .ok (.iload_n 2, 1) := by decide +kernel
theorem dX7_isWithinByRays_34 : decode cX7_isWithinByRays 34 = .ok (.invokevirtual 160, 3) := by decide +kernel
theorem dX7_isWithinByRays_37 : decode cX7_isWithinByRays 37 = .ok (.ifCond .eq 7, 3) := by decide +kernel
theorem dX7_isWithinByRays_40 : decode cX7_isWithinByRays 40 = .ok (.iconst 1, 1) := by decide +kernel
theorem dX7_isWithinByRays_41 : decode cX7_isWithinByRays 41 = .ok (.goto 4, 3) := by decide +kernel
theorem dX7_isWithinByRays_44 : decode cX7_isWithinByRays 44 = .ok (.iconst 0, 1) := by decide +kernel
theorem dX7_isWithinByRays_45 : decode cX7_isWithinByRays 45 = .ok (.ireturn, 1) := by decide +kernel
set_option maxRecDepth 20000 in
theorem ggX7_isWithinBySpreading_X7_isWithinByRays : GoodIn wsX7_isWithinBySpreading wsX7_isWithinByRays := goodIn_r _ [5, 6, 7, 8, 9, 4, 10, 11, 12, 13, 14, 15, 16, 17, 18, 19, 20, 21, 22, 23, 24, 25, 26, 27, 28, 29, 30, 31, 32, 33, 34, 35, 36, 37, 38, 39, 40, 41, 42, 43, 44, 45, 46, 47, 48, 49, 50, 51, 52, 53, 54, 55, 56, 57, 58, 59, 60] (by decide +kernel) (by decide +kernel)
set_option maxRecDepth 20000 in
theorem gX7_isWithinBySpreading_X7_isWithinByRays : GoodIn wsX7_isWithinBySpreading (wsV RX7 163 RX7 yX7_isWithinByRays wsX7_isWithinByRays) := goodIn_app (goodIn_of _ (by decide +kernel)) ggX7_isWithinBySpreading_X7_isWithinByRays
theorem dX7_isWithinBySpreading_0 : decode cX7_isWithinBySpreading 0 = .ok (.aload_n 0, 1) := by decide +kernel
theorem dX7_isWithinBySpreading_1 : decode cX7_isWithinBySpreading 1 = .ok (.iload_n 1, 1) := by decide +kernel
theorem dX7_isWithinBySpreading_2 : decode cX7_isWithinBySpreading 2 = .ok (.iload_n 2, 1) := by decide +kernel
theorem dX7_isWithinBySpreading_3 : decode cX7_isWithinBySpreading 3 = .ok (.invokevirtual 163, 3) := by decide +kernel
theorem dX7_isWithinBySpreading_6 : decode cX7_isWithinBySpreading 6 = .ok (.ireturn, 1) := by decide +kernel
set_option maxRecDepth 20000 in
theorem ggX7_pointsWithin_X7_knows : GoodIn wsX7_pointsWithin wsX7_knows := goodIn_r _ [5, 6, 7, 8, 9, 4, 10, 11, 12, 13, 14, 45, 46, 47, 48, 49, 50, 51, 52, 53, 54, 55, 56, 57] (by decide +kernel) (by decide +kernel)
set_option maxRecDepth 20000 in
theorem gX7_pointsWithin_X7_knows : GoodIn wsX7_pointsWithin (wsV RX7 146 RX7 yX7_knows wsX7_knows) := goodIn_app (goodIn_of _ (by decide +kernel)) ggX7_pointsWithin_X7_knows
set_option maxRecDepth 20000 in
theorem ggX7_pointsWithin_X7_contains : GoodIn wsX7_pointsWithin wsX7_contains := goodIn_r _ [18, 19, 20, 21, 4, 22, 23, 24, 25, 26, 11, 27, 28, 29, 30, 31, 32, 33, 34, 35, 36, 37, 12, 13, 14, 38, 39, 40, 41, 42, 43, 44, 45, 46, 47, 48, 49, 50, 51, 52, 53, 54, 55, 56, 57] (by decide +kernel) (by decide +kernel)
set_option maxRecDepth 20000 in
theorem gX7_pointsWithin_X7_contains : GoodIn wsX7_pointsWithin (wsV RX7 160 RX7 yX7_contains wsX7_contains) := goodIn_app (goodIn_of _ (by decide +kernel)) ggX7_pointsWithin_X7_contains
theorem dX7_pointsWithin_0 : decode cX7_pointsWithin 0 = .ok (.iconst 0, 1) := by decide +kernel
theorem dX7_pointsWithin_1 : decode cX7_pointsWithin 1 = .ok (.istore_n 2, 1) := by decide +kernel
theorem dX7_pointsWithin_2 : decode cX7_pointsWithin 2 = .ok (.aload_n 0, 1) := by decide +kernel
theorem dX7_pointsWithin_3 : decode cX7_pointsWithin 3 = .ok (.iload_n 1, 1) := by decide +kernel
theorem dX7_pointsWithin_4 : decode cX7_pointsWithin 4 = .ok (.invokevirtual 146, 3) := by decide +kernel
theorem dX7_pointsWithin_7 : decode cX7_pointsWithin 7 = .ok (.istore_n 3, 1) := by decide +kernel
theorem dX7_pointsWithin_8 : decode cX7_pointsWithin 8 = .ok (.iconst 0, 1) := by decide +kernel
theorem dX7_pointsWithin_9 : decode cX7_pointsWithin 9 = .ok (.istore 4, 2) := by decide +kernel
theorem dX7_pointsWithin_11 : decode cX7_pointsWithin 11 = .ok (.iload 4, 2) := by decide +kernel
theorem dX7_pointsWithin_13 : decode cX7_pointsWithin 13 = .ok (.sipush 384, 3) := by decide +kernel
theorem dX7_pointsWithin_16 : decode cX7_pointsWithin 16 = .ok (.if_icmp .ge 31, 3) := by decide +kernel
theorem dX7_pointsWithin_19 : decode cX7_pointsWithin 19 = .ok (.iload_n 3, 1) := by decide +kernel
theorem dX7_pointsWithin_20 : decode cX7_pointsWithin 20 = .ok (.ifCond .eq 27, 3) := by decide +kernel
theorem dX7_pointsWithin_23 : decode cX7_pointsWithin 23 = .ok (.iload_n 2, 1) := by decide +kernel
theorem dX7_pointsWithin_24 : decode cX7_pointsWithin 24 = .ok (.aload_n 0, 1) := by decide +kernel
theorem dX7_pointsWithin_25 : decode cX7_pointsWithin 25 = .ok (.iload_n 1, 1) := by decide +kernel
theorem dX7_pointsWithin_26 : decode cX7_pointsWithin 26 = .ok (.iload 4, 2) := by decide +kernel
theorem dX7_pointsWithin_28 : decode cX7_pointsWithin 28 = .ok (.invokevirtual 160, 3) := by decide +kernel
theorem dX7_pointsWithin_31 : decode cX7_pointsWithin 31 = .ok (.ifCond .eq 7, 3) := by decide +kernel
theorem dX7_pointsWithin_34 : decode cX7_pointsWithin 34 = .ok (.iconst 1, 1) := by decide +kernel
theorem dX7_pointsWithin_35 : decode cX7_pointsWithin 35 = .ok (.goto 4, 3) := by decide +kernel
theorem dX7_pointsWithin_38 : decode cX7_pointsWithin 38 = .ok (.iconst 0, 1) := by decide +kernel
theorem dX7_pointsWithin_39 : decode cX7_pointsWithin 39 = .ok (.iadd, 1) := by decide +kernel
theorem dX7_pointsWithin_40 : decode cX7_pointsWithin 40 = .ok (.istore_n 2, 1) := by decide +kernel
theorem dX7_pointsWithin_41 : decode cX7_pointsWithin 41 = .ok (.iinc 4 1, 3) := by decide +kernel
theorem dX7_pointsWithin_44 : decode cX7_pointsWithin 44 = .ok (.goto (-33), 3) := by decide +kernel
theorem dX7_pointsWithin_47 : decode cX7_pointsWithin 47 = .ok (.iload_n 2, 1) := by decide +kernel
theorem dX7_pointsWithin_48 : decode cX7_pointsWithin 48 = .ok (.ireturn, 1) := by decide +kernel
set_option maxRecDepth 20000 in
theorem ggX7_round_X7_of : GoodIn wsX7_round wsX7_of := goodIn_r _ [6, 1, 36, 37, 38, 39, 40, 41, 42, 43, 44, 45, 46, 47, 48] (by decide +kernel) (by decide +kernel)
set_option maxRecDepth 20000 in
theorem gX7_round_X7_of : GoodIn wsX7_round (wsV RX7 37 RX7 yX7_of wsX7_of) := goodIn_app (goodIn_of _ (by decide +kernel)) ggX7_round_X7_of
set_option maxRecDepth 20000 in
theorem ggX7_round_X7_contains : GoodIn wsX7_round wsX7_contains := goodIn_r _ [10, 11, 12, 13, 5, 14, 2, 3, 4, 6, 1, 15, 16, 17, 18, 19, 20, 21, 22, 23, 24, 25, 26, 27, 28, 29, 30, 31, 32, 33, 34, 35, 36, 37, 38, 39, 40, 41, 42, 43, 44, 45, 46, 47, 48] (by decide +kernel) (by decide +kernel)
set_option maxRecDepth 20000 in
theorem gX7_round_X7_contains : GoodIn wsX7_round (wsV RX7 160 RX7 yX7_contains wsX7_contains) := goodIn_app (goodIn_of _ (by decide +kernel)) ggX7_round_X7_contains
theorem dX7_round_0 : decode cX7_round 0 = .ok (.iconst (-1), 1) := by decide +kernel
theorem dX7_round_1 : decode cX7_round 1 = .ok (.istore_n 2, 1) := by decide +kernel
theorem dX7_round_2 : decode cX7_round 2 = .ok (.iconst 0, 1) := by decide +kernel
theorem dX7_round_3 : decode cX7_round 3 = .ok (.istore_n 3, 1) := by decide +kernel
theorem dX7_round_4 : decode cX7_round 4 = .ok (.iload_n 3, 1) := by decide +kernel
theorem dX7_round_5 : decode cX7_round 5 = .ok (.aload_n 0, 1) := by decide +kernel
theorem dX7_round_6 : decode cX7_round 6 = .ok (.getfield 7, 3) := by decide +kernel
theorem dX7_round_9 : decode cX7_round 9 = .ok (.iconst 0, 1) := by decide +kernel
theorem dX7_round_10 : decode cX7_round 10 = .ok (.iaload, 1) := by decide +kernel
theorem dX7_round_11 : decode cX7_round 11 = .ok (.if_icmp .ge 52, 3) := by decide +kernel
theorem dX7_round_14 : decode cX7_round 14 = .ok (.aload_n 0, 1) := by decide +kernel
theorem dX7_round_15 : decode cX7_round 15 = .ok (.iload_n 3, 1) := by decide +kernel
theorem dX7_round_16 : decode cX7_round 16 = .ok (.aload_n 0, 1) := by decide +kernel
theorem dX7_round_17 : decode cX7_round 17 = .ok (.iload_n 1, 1) := by decide +kernel
theorem dX7_round_18 : decode cX7_round 18 = .ok (.iconst 1, 1) := by decide +kernel
theorem dX7_round_19 : decode cX7_round 19 = .ok (.invokevirtual 37, 3) := by decide +kernel
theorem dX7_round_22 : decode cX7_round 22 = .ok (.invokevirtual 160, 3) := by decide +kernel
theorem dX7_round_25 : decode cX7_round 25 = .ok (.istore 4, 2) := by decide +kernel
theorem dX7_round_27 : decode cX7_round 27 = .ok (.iload 4, 2) := by decide +kernel
theorem dX7_round_29 : decode cX7_round 29 = .ok (.ifCond .eq 26, 3) := by decide +kernel
theorem dX7_round_32 : decode cX7_round 32 = .ok (.iload_n 2, 1) := by decide +kernel
theorem dX7_round_33 : decode cX7_round 33 = .ok (.iconst (-1), 1) := by decide +kernel
theorem dX7_round_34 : decode cX7_round 34 = .ok (.if_icmp .eq 17, 3) := by decide +kernel
theorem dX7_round_37 : decode cX7_round 37 = .ok (.aload_n 0, 1) := by decide +kernel
theorem dX7_round_38 : decode cX7_round 38 = .ok (.iload_n 2, 1) := by decide +kernel
theorem dX7_round_39 : decode cX7_round 39 = .ok (.aload_n 0, 1) := by decide +kernel
theorem dX7_round_40 : decode cX7_round 40 = .ok (.iload_n 3, 1) := by decide +kernel
theorem dX7_round_41 : decode cX7_round 41 = .ok (.iconst 1, 1) := by decide +kernel
theorem dX7_round_42 : decode cX7_round 42 = .ok (.invokevirtual 37, 3) := by decide +kernel
theorem dX7_round_45 : decode cX7_round 45 = .ok (.invokevirtual 160, 3) := by decide +kernel
theorem dX7_round_48 : decode cX7_round 48 = .ok (.ifCond .eq 7, 3) := by decide +kernel
theorem dX7_round_51 : decode cX7_round 51 = .ok (.iload_n 3, 1) := by decide +kernel
theorem dX7_round_52 : decode cX7_round 52 = .ok (.goto 4, 3) := by decide +kernel
theorem dX7_round_55 : decode cX7_round 55 = .ok (.iload_n 2, 1) := by decide +kernel
theorem dX7_round_56 : decode cX7_round 56 = .ok (.istore_n 2, 1) := by decide +kernel
theorem dX7_round_57 : decode cX7_round 57 = .ok (.iinc 3 1, 3) := by decide +kernel
theorem dX7_round_60 : decode cX7_round 60 = .ok (.goto (-56), 3) := by decide +kernel
theorem dX7_round_63 : decode cX7_round 63 = .ok (.iload_n 2, 1) := by decide +kernel
theorem dX7_round_64 : decode cX7_round 64 = .ok (.ireturn, 1) := by decide +kernel
set_option maxRecDepth 20000 in
theorem ggX7_lineRound_X7_knows : GoodIn wsX7_lineRound wsX7_knows := goodIn_r _ [5, 6, 7, 8, 9, 4, 10, 11, 12, 13, 14, 49, 50, 51, 52, 53, 54, 55, 56, 57, 58, 59, 60, 61] (by decide +kernel) (by decide +kernel)
set_option maxRecDepth 20000 in
theorem gX7_lineRound_X7_knows : GoodIn wsX7_lineRound (wsV RX7 146 RX7 yX7_knows wsX7_knows) := goodIn_app (goodIn_of _ (by decide +kernel)) ggX7_lineRound_X7_knows
set_option maxRecDepth 20000 in
theorem ggX7_lineRound_X7_round : GoodIn wsX7_lineRound wsX7_round := goodIn_r _ [18, 11, 19, 20, 21, 4, 22, 23, 24, 25, 26, 27, 28, 29, 30, 31, 32, 33, 34, 35, 36, 37, 38, 39, 40, 41, 12, 13, 14, 42, 43, 44, 45, 46, 47, 48, 49, 50, 51, 52, 53, 54, 55, 56, 57, 58, 59, 60, 61] (by decide +kernel) (by decide +kernel)
set_option maxRecDepth 20000 in
theorem gX7_lineRound_X7_round : GoodIn wsX7_lineRound (wsV RX7 166 RX7 yX7_round wsX7_round) := goodIn_app (goodIn_of _ (by decide +kernel)) ggX7_lineRound_X7_round
theorem dX7_lineRound_0 : decode cX7_lineRound 0 = .ok (.aload_n 0, 1) := by decide +kernel
theorem dX7_lineRound_1 : decode cX7_lineRound 1 = .ok (.iload_n 1, 1) := by decide +kernel
theorem dX7_lineRound_2 : decode cX7_lineRound 2 = .ok (.invokevirtual 146, 3) := by decide +kernel
theorem dX7_lineRound_5 : decode cX7_lineRound 5 = .ok (.ifCond .eq 11, 3) := by decide +kernel
theorem dX7_lineRound_8 : decode cX7_lineRound 8 = .ok (.aload_n 0, 1) := by decide +kernel
theorem dX7_lineRound_9 : decode cX7_lineRound 9 = .ok (.iload_n 1, 1) := by decide +kernel
theorem dX7_lineRound_10 : decode cX7_lineRound 10 = .ok (.invokevirtual 166, 3) := by decide +kernel
theorem dX7_lineRound_13 : decode cX7_lineRound 13 = .ok (.goto 4, 3) := by decide +kernel
theorem dX7_lineRound_16 : decode cX7_lineRound 16 = .ok (.iconst 0, 1) := by decide +kernel
theorem dX7_lineRound_17 : decode cX7_lineRound 17 = .ok (.ireturn, 1) := by decide +kernel
set_option maxRecDepth 20000 in
theorem ggX7_isSteady_X7_knows : GoodIn wsX7_isSteady wsX7_knows := goodIn_r _ [5, 6, 7, 8, 9, 4, 10, 11, 12, 13, 14, 52, 53, 54, 55, 56, 57, 58, 59, 60, 61, 62, 63, 64] (by decide +kernel) (by decide +kernel)
set_option maxRecDepth 20000 in
theorem gX7_isSteady_X7_knows : GoodIn wsX7_isSteady (wsV RX7 146 RX7 yX7_knows wsX7_knows) := goodIn_app (goodIn_of _ (by decide +kernel)) ggX7_isSteady_X7_knows
set_option maxRecDepth 20000 in
theorem ggX7_isSteady_X7_round : GoodIn wsX7_isSteady wsX7_round := goodIn_r _ [18, 11, 19, 20, 21, 4, 22, 23, 24, 25, 26, 27, 28, 29, 30, 31, 32, 33, 34, 35, 36, 37, 38, 39, 40, 41, 12, 13, 14, 42, 43, 44, 45, 46, 47, 48, 52, 53, 54, 55, 56, 57, 58, 59, 60, 61, 62, 63, 64] (by decide +kernel) (by decide +kernel)
set_option maxRecDepth 20000 in
theorem gX7_isSteady_X7_round : GoodIn wsX7_isSteady (wsV RX7 166 RX7 yX7_round wsX7_round) := goodIn_app (goodIn_of _ (by decide +kernel)) ggX7_isSteady_X7_round
set_option maxRecDepth 20000 in
theorem ggX7_isSteady_X7_of : GoodIn wsX7_isSteady wsX7_of := goodIn_r _ [22, 11, 52, 53, 54, 55, 56, 57, 58, 59, 60, 61, 62, 63, 64] (by decide +kernel) (by decide +kernel)
set_option maxRecDepth 20000 in
theorem gX7_isSteady_X7_of : GoodIn wsX7_isSteady (wsV RX7 37 RX7 yX7_of wsX7_of) := goodIn_app (goodIn_of _ (by decide +kernel)) ggX7_isSteady_X7_of
set_option maxRecDepth 20000 in
theorem ggX7_isSteady_X7_apart : GoodIn wsX7_isSteady wsX7_apart := goodIn_r _ [51] (by decide +kernel) (by decide +kernel)
set_option maxRecDepth 20000 in
theorem gX7_isSteady_X7_apart : GoodIn wsX7_isSteady (va_wsS RX7 61 yX7_apart wsX7_apart) := goodIn_app (goodIn_of _ (by decide +kernel)) ggX7_isSteady_X7_apart
theorem dX7_isSteady_0 : decode cX7_isSteady 0 = .ok (.aload_n 0, 1) := by decide +kernel
theorem dX7_isSteady_1 : decode cX7_isSteady 1 = .ok (.iload_n 1, 1) := by decide +kernel
theorem dX7_isSteady_2 : decode cX7_isSteady 2 = .ok (.invokevirtual 146, 3) := by decide +kernel
theorem dX7_isSteady_5 : decode cX7_isSteady 5 = .ok (.ifCond .ne 5, 3) := by decide +kernel
theorem dX7_isSteady_8 : decode cX7_isSteady 8 = .ok (.iconst 0, 1) := by decide +kernel
theorem dX7_isSteady_9 : decode cX7_isSteady 9 = .ok (.ireturn, 1) := by decide +kernel
theorem dX7_isSteady_10 : decode cX7_isSteady 10 = .ok (.aload_n 0, 1) := by decide +kernel
theorem dX7_isSteady_11 : decode cX7_isSteady 11 = .ok (.iload_n 1, 1) := by decide +kernel
theorem dX7_isSteady_12 : decode cX7_isSteady 12 = .ok (.invokevirtual 166, 3) := by decide +kernel
theorem dX7_isSteady_15 : decode cX7_isSteady 15 = .ok (.istore_n 2, 1) := by decide +kernel
theorem dX7_isSteady_16 : decode cX7_isSteady 16 = .ok (.iload_n 2, 1) := by decide +kernel
theorem dX7_isSteady_17 : decode cX7_isSteady 17 = .ok (.iconst (-1), 1) := by decide +kernel
theorem dX7_isSteady_18 : decode cX7_isSteady 18 = .ok (.if_icmp .eq 22, 3) := by decide +kernel
theorem dX7_isSteady_21 : decode cX7_isSteady 21 = .ok (.aload_n 0, 1) := by decide +kernel
theorem dX7_isSteady_22 : decode cX7_isSteady 22 = .ok (.iload_n 1, 1) := by decide +kernel
theorem dX7_isSteady_23 : decode cX7_isSteady 23 = .ok (.iconst 0, 1) := by decide +kernel
theorem dX7_isSteady_24 : decode cX7_isSteady 24 = .ok (.invokevirtual 37, 3) := by decide +kernel
theorem dX7_isSteady_27 : decode cX7_isSteady 27 = .ok (.aload_n 0, 1) := by decide +kernel
theorem dX7_isSteady_28 : decode cX7_isSteady 28 = .ok (.iload_n 2, 1) := by decide +kernel
theorem dX7_isSteady_29 : decode cX7_isSteady 29 = .ok (.iconst 0, 1) := by decide +kernel
theorem dX7_isSteady_30 : decode cX7_isSteady 30 = .ok (.invokevirtual 37, 3) := by decide +kernel
theorem dX7_isSteady_33 : decode cX7_isSteady 33 = .ok (.invokestatic 61, 3) := by decide +kernel
theorem dX7_isSteady_36 : decode cX7_isSteady 36 = .ok (.iconst 5, 1) := by decide +kernel
theorem dX7_isSteady_37 : decode cX7_isSteady 37 = .ok (.if_icmp .ne 7, 3) := by decide +kernel
theorem dX7_isSteady_40 : decode cX7_isSteady 40 = .ok (.iconst 1, 1) := by decide +kernel
theorem dX7_isSteady_41 : decode cX7_isSteady 41 = .ok (.goto 4, 3) := by decide +kernel
theorem dX7_isSteady_44 : decode cX7_isSteady 44 = .ok (.iconst 0, 1) := by decide +kernel
theorem dX7_isSteady_45 : decode cX7_isSteady 45 = .ok (.ireturn, 1) := by decide +kernel
set_option maxRecDepth 20000 in
theorem ggX7_lineByLevel_X7_in : GoodIn wsX7_lineByLevel wsX7_in := goodIn_r _ [6] (by decide +kernel) (by decide +kernel)
set_option maxRecDepth 20000 in
theorem gX7_lineByLevel_X7_in : GoodIn wsX7_lineByLevel (va_wsS RX7 26 yX7_in wsX7_in) := goodIn_app (goodIn_of _ (by decide +kernel)) ggX7_lineByLevel_X7_in
set_option maxRecDepth 20000 in
theorem ggX7_lineByLevel_X7_byLevel : GoodIn wsX7_lineByLevel wsX7_byLevel := goodIn_r _ [10, 2, 11, 12, 13, 5, 14, 19, 20, 21, 22, 23, 24, 25, 26, 27, 28, 29, 30, 31] (by decide +kernel) (by decide +kernel)
set_option maxRecDepth 20000 in
theorem gX7_lineByLevel_X7_byLevel : GoodIn wsX7_lineByLevel (wsV RX7 111 RX7 yX7_byLevel wsX7_byLevel) := goodIn_app (goodIn_of _ (by decide +kernel)) ggX7_lineByLevel_X7_byLevel
set_option maxRecDepth 20000 in
theorem ggX7_lineByLevel_X7_fails : GoodIn wsX7_lineByLevel wsX7_fails := goodIn_r _ [18, 1, 19, 20, 21, 22, 23, 24, 25, 26, 27, 28, 29, 30, 31] (by decide +kernel) (by decide +kernel)
set_option maxRecDepth 20000 in
theorem gX7_lineByLevel_X7_fails : GoodIn wsX7_lineByLevel (wsV RX7 137 RX7 yX7_fails wsX7_fails) := goodIn_app (goodIn_of _ (by decide +kernel)) ggX7_lineByLevel_X7_fails
theorem dX7_lineByLevel_0 : decode cX7_lineByLevel 0 = .ok (.aload_n 0, 1) := by decide +kernel
theorem dX7_lineByLevel_1 : decode cX7_lineByLevel 1 = .ok (.iconst 0, 1) := by decide +kernel
theorem dX7_lineByLevel_2 : decode cX7_lineByLevel 2 = .ok (.putfield 22, 3) := by decide +kernel
theorem dX7_lineByLevel_5 : decode cX7_lineByLevel 5 = .ok (.iload_n 1, 1) := by decide +kernel
theorem dX7_lineByLevel_6 : decode cX7_lineByLevel 6 = .ok (.iconst 0, 1) := by decide +kernel
theorem dX7_lineByLevel_7 : decode cX7_lineByLevel 7 = .ok (.aload_n 0, 1) := by decide +kernel
theorem dX7_lineByLevel_8 : decode cX7_lineByLevel 8 = .ok (.getfield 7, 3) := by decide +kernel
theorem dX7_lineByLevel_11 : decode cX7_lineByLevel 11 = .ok (.iconst 0, 1) := by decide +kernel
theorem dX7_lineByLevel_12 : decode cX7_lineByLevel 12 = .ok (.iaload, 1) := by decide +kernel
theorem dX7_lineByLevel_13 : decode cX7_lineByLevel 13 = .ok (.iconst 1, 1) := by decide +kernel
theorem dX7_lineByLevel_14 : decode cX7_lineByLevel 14 = .ok (.isub, 1) := by decide +kernel
theorem dX7_lineByLevel_15 : decode cX7_lineByLevel 15 = .ok (.invokestatic 26, 3) := by decide +kernel
theorem dX7_lineByLevel_18 : decode cX7_lineByLevel 18 = .ok (.ifCond .eq 11, 3) := by decide +kernel
theorem dX7_lineByLevel_21 : decode cX7_lineByLevel 21 = .ok (.aload_n 0, 1) := by decide +kernel
theorem dX7_lineByLevel_22 : decode cX7_lineByLevel 22 = .ok (.iload_n 1, 1) := by decide +kernel
theorem dX7_lineByLevel_23 : decode cX7_lineByLevel 23 = .ok (.invokevirtual 111, 3) := by decide +kernel
theorem dX7_lineByLevel_26 : decode cX7_lineByLevel 26 = .ok (.goto 8, 3) := by decide +kernel
theorem dX7_lineByLevel_29 : decode cX7_lineByLevel 29 = .ok (.aload_n 0, 1) := by decide +kernel
theorem dX7_lineByLevel_30 : decode cX7_lineByLevel 30 = .ok (.iconst 1, 1) := by decide +kernel
theorem dX7_lineByLevel_31 : decode cX7_lineByLevel 31 = .ok (.invokevirtual 137, 3) := by decide +kernel
theorem dX7_lineByLevel_34 : decode cX7_lineByLevel 34 = .ok (.ireturn, 1) := by decide +kernel
set_option maxRecDepth 20000 in
theorem ggX7_append_X7_in : GoodIn wsX7_append wsX7_in := goodIn_r _ [7] (by decide +kernel) (by decide +kernel)
set_option maxRecDepth 20000 in
theorem gX7_append_X7_in : GoodIn wsX7_append (va_wsS RX7 26 yX7_in wsX7_in) := goodIn_app (goodIn_of _ (by decide +kernel)) ggX7_append_X7_in
set_option maxRecDepth 20000 in
theorem ggX7_append_X7_fails : GoodIn wsX7_append wsX7_fails := goodIn_r _ [11, 1, 12, 13, 14, 15, 16, 17, 18, 19, 20, 21, 22, 23, 24] (by decide +kernel) (by decide +kernel)
set_option maxRecDepth 20000 in
theorem gX7_append_X7_fails : GoodIn wsX7_append (wsV RX7 137 RX7 yX7_fails wsX7_fails) := goodIn_app (goodIn_of _ (by decide +kernel)) ggX7_append_X7_fails
theorem dX7_append_0 : decode cX7_append 0 = .ok (.aload_n 0, 1) := by decide +kernel
theorem dX7_append_1 : decode cX7_append 1 = .ok (.iconst 0, 1) := by decide +kernel
theorem dX7_append_2 : decode cX7_append 2 = .ok (.putfield 22, 3) := by decide +kernel
theorem dX7_append_5 : decode cX7_append 5 = .ok (.iload_n 1, 1) := by decide +kernel
theorem dX7_append_6 : decode cX7_append 6 = .ok (.bipush 32, 2) := by decide +kernel
theorem dX7_append_8 : decode cX7_append 8 = .ok (.bipush 126, 2) := by decide +kernel
theorem dX7_append_10 : decode cX7_append 10 = .ok (.invokestatic 26, 3) := by decide +kernel
theorem dX7_append_13 : decode cX7_append 13 = .ok (.ifCond .ne 9, 3) := by decide +kernel
theorem dX7_append_16 : decode cX7_append 16 = .ok (.aload_n 0, 1) := by decide +kernel
theorem dX7_append_17 : decode cX7_append 17 = .ok (.iconst 1, 1) := by decide +kernel
theorem dX7_append_18 : decode cX7_append 18 = .ok (.invokevirtual 137, 3) := by decide +kernel
theorem dX7_append_21 : decode cX7_append 21 = .ok (.ireturn, 1) := by decide +kernel
theorem dX7_append_22 : decode cX7_append 22 = .ok (.aload_n 0, 1) := by decide +kernel
theorem dX7_append_23 : decode cX7_append 23 = .ok (.getfield 169, 3) := by decide +kernel
theorem dX7_append_26 : decode cX7_append 26 = .ok (.bipush 60, 2) := by decide +kernel
theorem dX7_append_28 : decode cX7_append 28 = .ok (.if_icmp .ne 9, 3) := by decide +kernel
theorem dX7_append_31 : decode cX7_append 31 = .ok (.aload_n 0, 1) := by decide +kernel
theorem dX7_append_32 : decode cX7_append 32 = .ok (.iconst 2, 1) := by decide +kernel
theorem dX7_append_33 : decode cX7_append 33 = .ok (.invokevirtual 137, 3) := by decide +kernel
theorem dX7_append_36 : decode cX7_append 36 = .ok (.ireturn, 1) := by decide +kernel
theorem dX7_append_37 : decode cX7_append 37 = .ok (.aload_n 0, 1) := by decide +kernel
theorem dX7_append_38 : decode cX7_append 38 = .ok (.getfield 19, 3) := by decide +kernel
theorem dX7_append_41 : decode cX7_append 41 = .ok (.aload_n 0, 1) := by decide +kernel
theorem dX7_append_42 : decode cX7_append 42 = .ok (.getfield 169, 3) := by decide +kernel
theorem dX7_append_45 : decode cX7_append 45 = .ok (.iload_n 1, 1) := by decide +kernel
theorem dX7_append_46 : decode cX7_append 46 = .ok (.iastore, 1) := by decide +kernel
theorem dX7_append_47 : decode cX7_append 47 = .ok (.aload_n 0, 1) := by decide +kernel
theorem dX7_append_48 : decode cX7_append 48 = .ok (.dup, 1) := by decide +kernel
theorem dX7_append_49 : decode cX7_append 49 = .ok (.getfield 169, 3) := by decide +kernel
theorem dX7_append_52 : decode cX7_append 52 = .ok (.iconst 1, 1) := by decide +kernel
theorem dX7_append_53 : decode cX7_append 53 = .ok (.iadd, 1) := by decide +kernel
theorem dX7_append_54 : decode cX7_append 54 = .ok (.putfield 169, 3) := by decide +kernel
theorem dX7_append_57 : decode cX7_append 57 = .ok (.aload_n 0, 1) := by decide +kernel
theorem dX7_append_58 : decode cX7_append 58 = .ok (.getfield 169, 3) := by decide +kernel
theorem dX7_append_61 : decode cX7_append 61 = .ok (.ireturn, 1) := by decide +kernel
theorem dX7_clearText_0 : decode cX7_clearText 0 = .ok (.aload_n 0, 1) := by decide +kernel
theorem dX7_clearText_1 : decode cX7_clearText 1 = .ok (.iconst 0, 1) := by decide +kernel
theorem dX7_clearText_2 : decode cX7_clearText 2 = .ok (.putfield 22, 3) := by decide +kernel
theorem dX7_clearText_5 : decode cX7_clearText 5 = .ok (.aload_n 0, 1) := by decide +kernel
theorem dX7_clearText_6 : decode cX7_clearText 6 = .ok (.getfield 169, 3) := by decide +kernel
theorem dX7_clearText_9 : decode cX7_clearText 9 = .ok (.istore_n 1, 1) := by decide +kernel
theorem dX7_clearText_10 : decode cX7_clearText 10 = .ok (.aload_n 0, 1) := by decide +kernel
theorem dX7_clearText_11 : decode cX7_clearText 11 = .ok (.iconst 0, 1) := by decide +kernel
theorem dX7_clearText_12 : decode cX7_clearText 12 = .ok (.putfield 169, 3) := by decide +kernel
theorem dX7_clearText_15 : decode cX7_clearText 15 = .ok (.iload_n 1, 1) := by decide +kernel
theorem dX7_clearText_16 : decode cX7_clearText 16 = .ok (.ireturn, 1) := by decide +kernel
theorem dX7_sign_0 : decode cX7_sign 0 = .ok (.aload_n 0, 1) := by decide +kernel
theorem dX7_sign_1 : decode cX7_sign 1 = .ok (.getfield 172, 3) := by decide +kernel
theorem dX7_sign_4 : decode cX7_sign 4 = .ok (.aload_n 0, 1) := by decide +kernel
theorem dX7_sign_5 : decode cX7_sign 5 = .ok (.getfield 169, 3) := by decide +kernel
theorem dX7_sign_8 : decode cX7_sign 8 = .ok (.if_icmp .ge 15, 3) := by decide +kernel
theorem dX7_sign_11 : decode cX7_sign 11 = .ok (.aload_n 0, 1) := by decide +kernel
theorem dX7_sign_12 : decode cX7_sign 12 = .ok (.getfield 19, 3) := by decide +kernel
theorem dX7_sign_15 : decode cX7_sign 15 = .ok (.aload_n 0, 1) := by decide +kernel
theorem dX7_sign_16 : decode cX7_sign 16 = .ok (.getfield 172, 3) := by decide +kernel
theorem dX7_sign_19 : decode cX7_sign 19 = .ok (.iaload, 1) := by decide +kernel
theorem dX7_sign_20 : decode cX7_sign 20 = .ok (.goto 4, 3) := by decide +kernel
theorem dX7_sign_23 : decode cX7_sign 23 = .ok (.iconst 0, 1) := by decide +kernel
theorem dX7_sign_24 : decode cX7_sign 24 = .ok (.ireturn, 1) := by decide +kernel
set_option maxRecDepth 20000 in
theorem ggX7_needs_X7_sign : GoodIn wsX7_needs wsX7_sign := goodIn_r _ [7, 2, 8, 9, 10, 11, 12, 13, 14, 15, 16, 17, 18, 19, 20, 21, 22] (by decide +kernel) (by decide +kernel)
set_option maxRecDepth 20000 in
theorem gX7_needs_X7_sign : GoodIn wsX7_needs (wsV RX7 179 RX7 yX7_sign wsX7_sign) := goodIn_app (goodIn_of _ (by decide +kernel)) ggX7_needs_X7_sign
theorem dX7_needs_0 : decode cX7_needs 0 = .ok (.aload_n 0, 1) := by decide +kernel
theorem dX7_needs_1 : decode cX7_needs 1 = .ok (.aload_n 0, 1) := by decide +kernel
theorem dX7_needs_2 : decode cX7_needs 2 = .ok (.getfield 175, 3) := by decide +kernel
theorem dX7_needs_5 : decode cX7_needs 5 = .ok (.ifCond .eq 15, 3) := by decide +kernel
theorem dX7_needs_8 : decode cX7_needs 8 = .ok (.aload_n 0, 1) := by decide +kernel
theorem dX7_needs_9 : decode cX7_needs 9 = .ok (.invokevirtual 179, 3) := by decide +kernel
theorem dX7_needs_12 : decode cX7_needs 12 = .ok (.iload_n 1, 1) := by decide +kernel
theorem dX7_needs_13 : decode cX7_needs 13 = .ok (.if_icmp .ne 7, 3) := by decide +kernel
theorem dX7_needs_16 : decode cX7_needs 16 = .ok (.iconst 1, 1) := by decide +kernel
theorem dX7_needs_17 : decode cX7_needs 17 = .ok (.goto 4, 3) := by decide +kernel
theorem dX7_needs_20 : decode cX7_needs 20 = .ok (.iconst 0, 1) := by decide +kernel
theorem dX7_needs_21 : decode cX7_needs 21 = .ok (.putfield 175, 3) := by decide +kernel
theorem dX7_needs_24 : decode cX7_needs 24 = .ok (.aload_n 0, 1) := by decide +kernel
theorem dX7_needs_25 : decode cX7_needs 25 = .ok (.dup, 1) := by decide +kernel
theorem dX7_needs_26 : decode cX7_needs 26 = .ok (.getfield 172, 3) := by decide +kernel
theorem dX7_needs_29 : decode cX7_needs 29 = .ok (.aload_n 0, 1) := by decide +kernel
theorem dX7_needs_30 : decode cX7_needs 30 = .ok (.getfield 175, 3) := by decide +kernel
theorem dX7_needs_33 : decode cX7_needs 33 = .ok (.ifCond .eq 7, 3) := by decide +kernel
theorem dX7_needs_36 : decode cX7_needs 36 = .ok (.iconst 1, 1) := by decide +kernel
theorem dX7_needs_37 : decode cX7_needs 37 = .ok (.goto 4, 3) := by decide +kernel
theorem dX7_needs_40 : decode cX7_needs 40 = .ok (.iconst 0, 1) := by decide +kernel
theorem dX7_needs_41 : decode cX7_needs 41 = .ok (.iadd, 1) := by decide +kernel
theorem dX7_needs_42 : decode cX7_needs 42 = .ok (.putfield 172, 3) := by decide +kernel
theorem dX7_needs_45 : decode cX7_needs 45 = .ok (.return_, 1) := by decide +kernel
set_option maxRecDepth 20000 in
theorem ggX7_number_X7_sign : GoodIn wsX7_number wsX7_sign := goodIn_r _ [7, 2, 8, 9, 13, 14, 15, 16, 17, 18, 19, 20, 21, 22, 23, 24, 25] (by decide +kernel) (by decide +kernel)
set_option maxRecDepth 20000 in
theorem gX7_number_X7_sign : GoodIn wsX7_number (wsV RX7 179 RX7 yX7_sign wsX7_sign) := goodIn_app (goodIn_of _ (by decide +kernel)) ggX7_number_X7_sign
set_option maxRecDepth 20000 in
theorem ggX7_number_X7_in : GoodIn wsX7_number wsX7_in := goodIn_r _ [12] (by decide +kernel) (by decide +kernel)
set_option maxRecDepth 20000 in
theorem gX7_number_X7_in : GoodIn wsX7_number (va_wsS RX7 26 yX7_in wsX7_in) := goodIn_app (goodIn_of _ (by decide +kernel)) ggX7_number_X7_in
theorem dX7_number_0 : decode cX7_number 0 = .ok (.aload_n 0, 1) := by decide +kernel
theorem dX7_number_1 : decode cX7_number 1 = .ok (.invokevirtual 179, 3) := by decide +kernel
theorem dX7_number_4 : decode cX7_number 4 = .ok (.bipush 48, 2) := by decide +kernel
theorem dX7_number_6 : decode cX7_number 6 = .ok (.isub, 1) := by decide +kernel
theorem dX7_number_7 : decode cX7_number 7 = .ok (.istore_n 3, 1) := by decide +kernel
theorem dX7_number_8 : decode cX7_number 8 = .ok (.aload_n 0, 1) := by decide +kernel
theorem dX7_number_9 : decode cX7_number 9 = .ok (.aload_n 0, 1) := by decide +kernel
theorem dX7_number_10 : decode cX7_number 10 = .ok (.getfield 175, 3) := by decide +kernel
theorem dX7_number_13 : decode cX7_number 13 = .ok (.ifCond .eq 26, 3) := by decide +kernel
theorem dX7_number_16 : decode cX7_number 16 = .ok (.iload_n 3, 1) := by decide +kernel
theorem dX7_number_17 : decode cX7_number 17 = .ok (.iconst 0, 1) := by decide +kernel
theorem dX7_number_18 : decode cX7_number 18 = .ok (.bipush 9, 2) := by decide +kernel
theorem dX7_number_20 : decode cX7_number 20 = .ok (.invokestatic 26, 3) := by decide +kernel
theorem dX7_number_23 : decode cX7_number 23 = .ok (.ifCond .eq 16, 3) := by decide +kernel
theorem dX7_number_26 : decode cX7_number 26 = .ok (.iload_n 3, 1) := by decide +kernel
theorem dX7_number_27 : decode cX7_number 27 = .ok (.iload_n 1, 1) := by decide +kernel
theorem dX7_number_28 : decode cX7_number 28 = .ok (.iload_n 2, 1) := by decide +kernel
theorem dX7_number_29 : decode cX7_number 29 = .ok (.invokestatic 26, 3) := by decide +kernel
theorem dX7_number_32 : decode cX7_number 32 = .ok (.ifCond .eq 7, 3) := by decide +kernel
theorem dX7_number_35 : decode cX7_number 35 = .ok (.iconst 1, 1) := by decide +kernel
theorem dX7_number_36 : decode cX7_number 36 = .ok (.goto 4, 3) := by decide +kernel
theorem dX7_number_39 : decode cX7_number 39 = .ok (.iconst 0, 1) := by decide +kernel
theorem dX7_number_40 : decode cX7_number 40 = .ok (.putfield 175, 3) := by decide +kernel
theorem dX7_number_43 : decode cX7_number 43 = .ok (.aload_n 0, 1) := by decide +kernel
theorem dX7_number_44 : decode cX7_number 44 = .ok (.dup, 1) := by decide +kernel
theorem dX7_number_45 : decode cX7_number 45 = .ok (.getfield 172, 3) := by decide +kernel
theorem dX7_number_48 : decode cX7_number 48 = .ok (.aload_n 0, 1) := by decide +kernel
theorem dX7_number_49 : decode cX7_number 49 = .ok (.getfield 175, 3) := by decide +kernel
theorem dX7_number_52 : decode cX7_number 52 = .ok (.ifCond .eq 7, 3) := by decide +kernel
theorem dX7_number_55 : decode cX7_number 55 = .ok (.iconst 1, 1) := by decide +kernel
theorem dX7_number_56 : decode cX7_number 56 = .ok (.goto 4, 3) := by decide +kernel
theorem dX7_number_59 : decode cX7_number 59 = .ok (.iconst 0, 1) := by decide +kernel
theorem dX7_number_60 : decode cX7_number 60 = .ok (.iadd, 1) := by decide +kernel
theorem dX7_number_61 : decode cX7_number 61 = .ok (.putfield 172, 3) := by decide +kernel
theorem dX7_number_64 : decode cX7_number 64 = .ok (.aload_n 0, 1) := by decide +kernel
theorem dX7_number_65 : decode cX7_number 65 = .ok (.getfield 175, 3) := by decide +kernel
theorem dX7_number_68 : decode cX7_number 68 = .ok (.ifCond .eq 63, 3) := by decide +kernel
theorem dX7_number_71 : decode cX7_number 71 = .ok (.iload_n 3, 1) := by decide +kernel
theorem dX7_number_72 : decode cX7_number 72 = .ok (.ifCond .le 59, 3) := by decide +kernel
theorem dX7_number_75 : decode cX7_number 75 = .ok (.aload_n 0, 1) := by decide +kernel
theorem dX7_number_76 : decode cX7_number 76 = .ok (.invokevirtual 179, 3) := by decide +kernel
theorem dX7_number_79 : decode cX7_number 79 = .ok (.bipush 48, 2) := by decide +kernel
theorem dX7_number_81 : decode cX7_number 81 = .ok (.bipush 57, 2) := by decide +kernel
theorem dX7_number_83 : decode cX7_number 83 = .ok (.invokestatic 26, 3) := by decide +kernel
theorem dX7_number_86 : decode cX7_number 86 = .ok (.ifCond .eq 45, 3) := by decide +kernel
theorem dX7_number_89 : decode cX7_number 89 = .ok (.bipush 10, 2) := by decide +kernel
theorem dX7_number_91 : decode cX7_number 91 = .ok (.iload_n 3, 1) := by decide +kernel
theorem dX7_number_92 : decode cX7_number 92 = .ok (.imul, 1) := by decide +kernel
theorem dX7_number_93 : decode cX7_number 93 = .ok (.aload_n 0, 1) := by decide +kernel
theorem dX7_number_94 : decode cX7_number 94 = .ok (.invokevirtual 179, 3) := by decide +kernel
theorem dX7_number_97 : decode cX7_number 97 = .ok (.iadd, 1) := by decide +kernel
theorem dX7_number_98 : decode cX7_number 98 = .ok (.bipush 48, 2) := by decide +kernel
theorem dX7_number_100 : decode cX7_number 100 = .ok (.isub, 1) := by decide +kernel
theorem dX7_number_101 : decode cX7_number 101 = .ok (.iload_n 2, 1) := by decide +kernel
theorem dX7_number_102 : decode cX7_number 102 = .ok (.if_icmp .gt 29, 3) := by decide +kernel
theorem dX7_number_105 : decode cX7_number 105 = .ok (.bipush 10, 2) := by decide +kernel
theorem dX7_number_107 : decode cX7_number 107 = .ok (.iload_n 3, 1) := by decide +kernel
theorem dX7_number_108 : decode cX7_number 108 = .ok (.imul, 1) := by decide +kernel
theorem dX7_number_109 : decode cX7_number 109 = .ok (.aload_n 0, 1) := by decide +kernel
theorem dX7_number_110 : decode cX7_number 110 = .ok (.invokevirtual 179, 3) := by decide +kernel
theorem dX7_number_113 : decode cX7_number 113 = .ok (.iadd, 1) := by decide +kernel
theorem dX7_number_114 : decode cX7_number 114 = .ok (.bipush 48, 2) := by decide +kernel
theorem dX7_number_116 : decode cX7_number 116 = .ok (.isub, 1) := by decide +kernel
theorem dX7_number_117 : decode cX7_number 117 = .ok (.istore_n 3, 1) := by decide +kernel
theorem dX7_number_118 : decode cX7_number 118 = .ok (.aload_n 0, 1) := by decide +kernel
theorem dX7_number_119 : decode cX7_number 119 = .ok (.dup, 1) := by decide +kernel
theorem dX7_number_120 : decode cX7_number 120 = .ok (.getfield 172, 3) := by decide +kernel
theorem dX7_number_123 : decode cX7_number 123 = .ok (.iconst 1, 1) := by decide +kernel
theorem dX7_number_124 : decode cX7_number 124 = .ok (.iadd, 1) := by decide +kernel
theorem dX7_number_125 : decode cX7_number 125 = .ok (.putfield 172, 3) := by decide +kernel
theorem dX7_number_128 : decode cX7_number 128 = .ok (.goto (-64), 3) := by decide +kernel
theorem dX7_number_131 : decode cX7_number 131 = .ok (.iload_n 3, 1) := by decide +kernel
theorem dX7_number_132 : decode cX7_number 132 = .ok (.ireturn, 1) := by decide +kernel
set_option maxRecDepth 20000 in
theorem ggX7_reads_X7_sign : GoodIn wsX7_reads wsX7_sign := goodIn_r _ [10, 3, 11, 12, 24, 25, 26, 27, 28, 29, 30, 31, 32, 33, 34, 35, 36] (by decide +kernel) (by decide +kernel)
set_option maxRecDepth 20000 in
theorem gX7_reads_X7_sign : GoodIn wsX7_reads (wsV RX7 179 RX7 yX7_sign wsX7_sign) := goodIn_app (goodIn_of _ (by decide +kernel)) ggX7_reads_X7_sign
set_option maxRecDepth 20000 in
theorem ggX7_reads_X7_in : GoodIn wsX7_reads wsX7_in := goodIn_r _ [15] (by decide +kernel) (by decide +kernel)
set_option maxRecDepth 20000 in
theorem gX7_reads_X7_in : GoodIn wsX7_reads (va_wsS RX7 26 yX7_in wsX7_in) := goodIn_app (goodIn_of _ (by decide +kernel)) ggX7_reads_X7_in
set_option maxRecDepth 20000 in
theorem ggX7_reads_X7_number : GoodIn wsX7_reads wsX7_number := goodIn_r _ [19, 2, 3, 6, 7, 8, 9, 10, 11, 12, 13, 14, 15, 24, 25, 26, 27, 28, 29, 30, 31, 32, 33, 34, 35, 36] (by decide +kernel) (by decide +kernel)
set_option maxRecDepth 20000 in
theorem gX7_reads_X7_number : GoodIn wsX7_reads (wsV RX7 191 RX7 yX7_number wsX7_number) := goodIn_app (goodIn_of _ (by decide +kernel)) ggX7_reads_X7_number
set_option maxRecDepth 20000 in
theorem ggX7_reads_X7_needs : GoodIn wsX7_reads wsX7_needs := goodIn_r _ [23, 2, 3, 6, 7, 8, 9, 10, 11, 12, 24, 25, 26, 27, 28, 29, 30, 31, 32, 33, 34, 35, 36] (by decide +kernel) (by decide +kernel)
set_option maxRecDepth 20000 in
theorem gX7_reads_X7_needs : GoodIn wsX7_reads (wsV RX7 194 RX7 yX7_needs wsX7_needs) := goodIn_app (goodIn_of _ (by decide +kernel)) ggX7_reads_X7_needs
theorem dX7_reads_0 : decode cX7_reads 0 = .ok (.aload_n 0, 1) := by decide +kernel
theorem dX7_reads_1 : decode cX7_reads 1 = .ok (.aload_n 0, 1) := by decide +kernel
theorem dX7_reads_2 : decode cX7_reads 2 = .ok (.invokevirtual 179, 3) := by decide +kernel
theorem dX7_reads_5 : decode cX7_reads 5 = .ok (.putfield 182, 3) := by decide +kernel
theorem dX7_reads_8 : decode cX7_reads 8 = .ok (.aload_n 0, 1) := by decide +kernel
theorem dX7_reads_9 : decode cX7_reads 9 = .ok (.aload_n 0, 1) := by decide +kernel
theorem dX7_reads_10 : decode cX7_reads 10 = .ok (.getfield 182, 3) := by decide +kernel
theorem dX7_reads_13 : decode cX7_reads 13 = .ok (.bipush 110, 2) := by decide +kernel
theorem dX7_reads_15 : decode cX7_reads 15 = .ok (.if_icmp .eq 66, 3) := by decide +kernel
theorem dX7_reads_18 : decode cX7_reads 18 = .ok (.aload_n 0, 1) := by decide +kernel
theorem dX7_reads_19 : decode cX7_reads 19 = .ok (.getfield 182, 3) := by decide +kernel
theorem dX7_reads_22 : decode cX7_reads 22 = .ok (.bipush 115, 2) := by decide +kernel
theorem dX7_reads_24 : decode cX7_reads 24 = .ok (.if_icmp .eq 57, 3) := by decide +kernel
theorem dX7_reads_27 : decode cX7_reads 27 = .ok (.aload_n 0, 1) := by decide +kernel
theorem dX7_reads_28 : decode cX7_reads 28 = .ok (.getfield 182, 3) := by decide +kernel
theorem dX7_reads_31 : decode cX7_reads 31 = .ok (.bipush 119, 2) := by decide +kernel
theorem dX7_reads_33 : decode cX7_reads 33 = .ok (.if_icmp .eq 48, 3) := by decide +kernel
theorem dX7_reads_36 : decode cX7_reads 36 = .ok (.aload_n 0, 1) := by decide +kernel
theorem dX7_reads_37 : decode cX7_reads 37 = .ok (.getfield 182, 3) := by decide +kernel
theorem dX7_reads_40 : decode cX7_reads 40 = .ok (.bipush 108, 2) := by decide +kernel
theorem dX7_reads_42 : decode cX7_reads 42 = .ok (.if_icmp .eq 39, 3) := by decide +kernel
theorem dX7_reads_45 : decode cX7_reads 45 = .ok (.aload_n 0, 1) := by decide +kernel
theorem dX7_reads_46 : decode cX7_reads 46 = .ok (.getfield 182, 3) := by decide +kernel
theorem dX7_reads_49 : decode cX7_reads 49 = .ok (.bipush 117, 2) := by decide +kernel
theorem dX7_reads_51 : decode cX7_reads 51 = .ok (.if_icmp .eq 30, 3) := by decide +kernel
theorem dX7_reads_54 : decode cX7_reads 54 = .ok (.aload_n 0, 1) := by decide +kernel
theorem dX7_reads_55 : decode cX7_reads 55 = .ok (.getfield 182, 3) := by decide +kernel
theorem dX7_reads_58 : decode cX7_reads 58 = .ok (.bipush 98, 2) := by decide +kernel
theorem dX7_reads_60 : decode cX7_reads 60 = .ok (.if_icmp .eq 21, 3) := by decide +kernel
theorem dX7_reads_63 : decode cX7_reads 63 = .ok (.aload_n 0, 1) := by decide +kernel
theorem dX7_reads_64 : decode cX7_reads 64 = .ok (.getfield 182, 3) := by decide +kernel
theorem dX7_reads_67 : decode cX7_reads 67 = .ok (.bipush 97, 2) := by decide +kernel
theorem dX7_reads_69 : decode cX7_reads 69 = .ok (.if_icmp .eq 12, 3) := by decide +kernel
theorem dX7_reads_72 : decode cX7_reads 72 = .ok (.aload_n 0, 1) := by decide +kernel
theorem dX7_reads_73 : decode cX7_reads 73 = .ok (.getfield 182, 3) := by decide +kernel
theorem dX7_reads_76 : decode cX7_reads 76 = .ok (.bipush 103, 2) := by decide +kernel
theorem dX7_reads_78 : decode cX7_reads 78 = .ok (.if_icmp .ne 7, 3) := by decide +kernel
theorem dX7_reads_81 : decode cX7_reads 81 = .ok (.iconst 1, 1) := by decide +kernel
theorem dX7_reads_82 : decode cX7_reads 82 = .ok (.goto 4, 3) := by decide +kernel
theorem dX7_reads_85 : decode cX7_reads 85 = .ok (.iconst 0, 1) := by decide +kernel
theorem dX7_reads_86 : decode cX7_reads 86 = .ok (.putfield 175, 3) := by decide +kernel
theorem dX7_reads_89 : decode cX7_reads 89 = .ok (.aload_n 0, 1) := by decide +kernel
theorem dX7_reads_90 : decode cX7_reads 90 = .ok (.dup, 1) := by decide +kernel
theorem dX7_reads_91 : decode cX7_reads 91 = .ok (.getfield 172, 3) := by decide +kernel
theorem dX7_reads_94 : decode cX7_reads 94 = .ok (.aload_n 0, 1) := by decide +kernel
theorem dX7_reads_95 : decode cX7_reads 95 = .ok (.getfield 175, 3) := by decide +kernel
theorem dX7_reads_98 : decode cX7_reads 98 = .ok (.ifCond .eq 7, 3) := by decide +kernel
theorem dX7_reads_101 : decode cX7_reads 101 = .ok (.iconst 1, 1) := by decide +kernel
theorem dX7_reads_102 : decode cX7_reads 102 = .ok (.goto 4, 3) := by decide +kernel
theorem dX7_reads_105 : decode cX7_reads 105 = .ok (.iconst 0, 1) := by decide +kernel
theorem dX7_reads_106 : decode cX7_reads 106 = .ok (.iadd, 1) := by decide +kernel
theorem dX7_reads_107 : decode cX7_reads 107 = .ok (.putfield 172, 3) := by decide +kernel
theorem dX7_reads_110 : decode cX7_reads 110 = .ok (.aload_n 0, 1) := by decide +kernel
theorem dX7_reads_111 : decode cX7_reads 111 = .ok (.aload_n 0, 1) := by decide +kernel
theorem dX7_reads_112 : decode cX7_reads 112 = .ok (.getfield 172, 3) := by decide +kernel
theorem dX7_reads_115 : decode cX7_reads 115 = .ok (.putfield 185, 3) := by decide +kernel
theorem dX7_reads_118 : decode cX7_reads 118 = .ok (.aload_n 0, 1) := by decide +kernel
theorem dX7_reads_119 : decode cX7_reads 119 = .ok (.iconst 0, 1) := by decide +kernel
theorem dX7_reads_120 : decode cX7_reads 120 = .ok (.putfield 188, 3) := by decide +kernel
theorem dX7_reads_123 : decode cX7_reads 123 = .ok (.aload_n 0, 1) := by decide +kernel
theorem dX7_reads_124 : decode cX7_reads 124 = .ok (.getfield 182, 3) := by decide +kernel
theorem dX7_reads_127 : decode cX7_reads 127 = .ok (.bipush 115, 2) := by decide +kernel
theorem dX7_reads_129 : decode cX7_reads 129 = .ok (.if_icmp .ne 64, 3) := by decide +kernel
theorem dX7_reads_132 : decode cX7_reads 132 = .ok (.aload_n 0, 1) := by decide +kernel
theorem dX7_reads_133 : decode cX7_reads 133 = .ok (.aload_n 0, 1) := by decide +kernel
theorem dX7_reads_134 : decode cX7_reads 134 = .ok (.invokevirtual 179, 3) := by decide +kernel
theorem dX7_reads_137 : decode cX7_reads 137 = .ok (.bipush 48, 2) := by decide +kernel
theorem dX7_reads_139 : decode cX7_reads 139 = .ok (.bipush 55, 2) := by decide +kernel
theorem dX7_reads_141 : decode cX7_reads 141 = .ok (.invokestatic 26, 3) := by decide +kernel
theorem dX7_reads_144 : decode cX7_reads 144 = .ok (.putfield 175, 3) := by decide +kernel
theorem dX7_reads_147 : decode cX7_reads 147 = .ok (.aload_n 0, 1) := by decide +kernel
theorem dX7_reads_148 : decode cX7_reads 148 = .ok (.getfield 188, 3) := by decide +kernel
theorem dX7_reads_151 : decode cX7_reads 151 = .ok (.bipush 20, 2) := by decide +kernel
theorem dX7_reads_153 : decode cX7_reads 153 = .ok (.if_icmp .ge 183, 3) := by decide +kernel
theorem dX7_reads_156 : decode cX7_reads 156 = .ok (.aload_n 0, 1) := by decide +kernel
theorem dX7_reads_157 : decode cX7_reads 157 = .ok (.invokevirtual 179, 3) := by decide +kernel
theorem dX7_reads_160 : decode cX7_reads 160 = .ok (.bipush 48, 2) := by decide +kernel
theorem dX7_reads_162 : decode cX7_reads 162 = .ok (.bipush 55, 2) := by decide +kernel
theorem dX7_reads_164 : decode cX7_reads 164 = .ok (.invokestatic 26, 3) := by decide +kernel
theorem dX7_reads_167 : decode cX7_reads 167 = .ok (.ifCond .eq 169, 3) := by decide +kernel
theorem dX7_reads_170 : decode cX7_reads 170 = .ok (.aload_n 0, 1) := by decide +kernel
theorem dX7_reads_171 : decode cX7_reads 171 = .ok (.dup, 1) := by decide +kernel
theorem dX7_reads_172 : decode cX7_reads 172 = .ok (.getfield 188, 3) := by decide +kernel
theorem dX7_reads_175 : decode cX7_reads 175 = .ok (.iconst 1, 1) := by decide +kernel
theorem dX7_reads_176 : decode cX7_reads 176 = .ok (.iadd, 1) := by decide +kernel
theorem dX7_reads_177 : decode cX7_reads 177 = .ok (.putfield 188, 3) := by decide +kernel
theorem dX7_reads_180 : decode cX7_reads 180 = .ok (.aload_n 0, 1) := by decide +kernel
theorem dX7_reads_181 : decode cX7_reads 181 = .ok (.dup, 1) := by decide +kernel
theorem dX7_reads_182 : decode cX7_reads 182 = .ok (.getfield 172, 3) := by decide +kernel
theorem dX7_reads_185 : decode cX7_reads 185 = .ok (.iconst 1, 1) := by decide +kernel
theorem dX7_reads_186 : decode cX7_reads 186 = .ok (.iadd, 1) := by decide +kernel
theorem dX7_reads_187 : decode cX7_reads 187 = .ok (.putfield 172, 3) := by decide +kernel
theorem dX7_reads_190 : decode cX7_reads 190 = .ok (.goto (-43), 3) := by decide +kernel
theorem dX7_reads_193 : decode cX7_reads 193 = .ok (.aload_n 0, 1) := by decide +kernel
theorem dX7_reads_194 : decode cX7_reads 194 = .ok (.getfield 182, 3) := by decide +kernel
theorem dX7_reads_197 : decode cX7_reads 197 = .ok (.bipush 97, 2) := by decide +kernel
theorem dX7_reads_199 : decode cX7_reads 199 = .ok (.if_icmp .eq 137, 3) := by decide +kernel
theorem dX7_reads_202 : decode cX7_reads 202 = .ok (.aload_n 0, 1) := by decide +kernel
theorem dX7_reads_203 : decode cX7_reads 203 = .ok (.getfield 175, 3) := by decide +kernel
theorem dX7_reads_206 : decode cX7_reads 206 = .ok (.ifCond .eq 130, 3) := by decide +kernel
theorem dX7_reads_209 : decode cX7_reads 209 = .ok (.aload_n 0, 1) := by decide +kernel
theorem dX7_reads_210 : decode cX7_reads 210 = .ok (.aload_n 0, 1) := by decide +kernel
theorem dX7_reads_211 : decode cX7_reads 211 = .ok (.aload_n 0, 1) := by decide +kernel
theorem dX7_reads_212 : decode cX7_reads 212 = .ok (.getfield 182, 3) := by decide +kernel
theorem dX7_reads_215 : decode cX7_reads 215 = .ok (.bipush 103, 2) := by decide +kernel
theorem dX7_reads_217 : decode cX7_reads 217 = .ok (.if_icmp .ne 7, 3) := by decide +kernel
theorem dX7_reads_220 : decode cX7_reads 220 = .ok (.iconst 1, 1) := by decide +kernel
theorem dX7_reads_221 : decode cX7_reads 221 = .ok (.goto 4, 3) := by decide +kernel
theorem dX7_reads_224 : decode cX7_reads 224 = .ok (.iconst 0, 1) := by decide +kernel
theorem dX7_reads_225 : decode cX7_reads 225 = .ok (.aload_n 0, 1) := by decide +kernel
theorem dX7_reads_226 : decode cX7_reads 226 = .ok (.getfield 182, 3) := by decide +kernel
theorem dX7_reads_229 : decode cX7_reads 229 = .ok (.bipush 110, 2) := by decide +kernel
theorem dX7_reads_231 : decode cX7_reads 231 = .ok (.if_icmp .ne 8, 3) := by decide +kernel
theorem dX7_reads_234 : decode cX7_reads 234 = .ok (.bipush 99, 2) := by decide +kernel
theorem dX7_reads_236 : decode cX7_reads 236 = .ok (.goto 19, 3) := by decide +kernel
theorem dX7_reads_239 : decode cX7_reads 239 = .ok (.aload_n 0, 1) := by decide +kernel
theorem dX7_reads_240 : decode cX7_reads 240 = .ok (.getfield 182, 3) := by decide +kernel
theorem dX7_reads_243 : decode cX7_reads 243 = .ok (.bipush 103, 2) := by decide +kernel
theorem dX7_reads_245 : decode cX7_reads 245 = .ok (.if_icmp .ne 8, 3) := by decide +kernel
theorem dX7_reads_248 : decode cX7_reads 248 = .ok (.bipush 6, 2) := by decide +kernel
theorem dX7_reads_250 : decode cX7_reads 250 = .ok (.goto 5, 3) := by decide +kernel
theorem dX7_reads_253 : decode cX7_reads 253 = .ok (.bipush 7, 2) := by decide +kernel
theorem dX7_reads_255 : decode cX7_reads 255 = .ok (.invokevirtual 191, 3) := by decide +kernel
theorem dX7_reads_258 : decode cX7_reads 258 = .ok (.putfield 185, 3) := by decide +kernel
theorem dX7_reads_261 : decode cX7_reads 261 = .ok (.aload_n 0, 1) := by decide +kernel
theorem dX7_reads_262 : decode cX7_reads 262 = .ok (.getfield 182, 3) := by decide +kernel
theorem dX7_reads_265 : decode cX7_reads 265 = .ok (.bipush 110, 2) := by decide +kernel
theorem dX7_reads_267 : decode cX7_reads 267 = .ok (.if_icmp .eq 12, 3) := by decide +kernel
theorem dX7_reads_270 : decode cX7_reads 270 = .ok (.aload_n 0, 1) := by decide +kernel
theorem dX7_reads_271 : decode cX7_reads 271 = .ok (.getfield 182, 3) := by decide +kernel
theorem dX7_reads_274 : decode cX7_reads 274 = .ok (.bipush 108, 2) := by decide +kernel
theorem dX7_reads_276 : decode cX7_reads 276 = .ok (.if_icmp .ne 60, 3) := by decide +kernel
theorem dX7_reads_279 : decode cX7_reads 279 = .ok (.aload_n 0, 1) := by decide +kernel
theorem dX7_reads_280 : decode cX7_reads 280 = .ok (.aload_n 0, 1) := by decide +kernel
theorem dX7_reads_281 : decode cX7_reads 281 = .ok (.getfield 182, 3) := by decide +kernel
theorem dX7_reads_284 : decode cX7_reads 284 = .ok (.bipush 110, 2) := by decide +kernel
theorem dX7_reads_286 : decode cX7_reads 286 = .ok (.if_icmp .ne 8, 3) := by decide +kernel
theorem dX7_reads_289 : decode cX7_reads 289 = .ok (.bipush 64, 2) := by decide +kernel
theorem dX7_reads_291 : decode cX7_reads 291 = .ok (.goto 5, 3) := by decide +kernel
theorem dX7_reads_294 : decode cX7_reads 294 = .ok (.bipush 46, 2) := by decide +kernel
theorem dX7_reads_296 : decode cX7_reads 296 = .ok (.invokevirtual 194, 3) := by decide +kernel
theorem dX7_reads_299 : decode cX7_reads 299 = .ok (.aload_n 0, 1) := by decide +kernel
theorem dX7_reads_300 : decode cX7_reads 300 = .ok (.aload_n 0, 1) := by decide +kernel
theorem dX7_reads_301 : decode cX7_reads 301 = .ok (.getfield 175, 3) := by decide +kernel
theorem dX7_reads_304 : decode cX7_reads 304 = .ok (.ifCond .eq 28, 3) := by decide +kernel
theorem dX7_reads_307 : decode cX7_reads 307 = .ok (.aload_n 0, 1) := by decide +kernel
theorem dX7_reads_308 : decode cX7_reads 308 = .ok (.iconst 0, 1) := by decide +kernel
theorem dX7_reads_309 : decode cX7_reads 309 = .ok (.aload_n 0, 1) := by decide +kernel
theorem dX7_reads_310 : decode cX7_reads 310 = .ok (.getfield 182, 3) := by decide +kernel
theorem dX7_reads_313 : decode cX7_reads 313 = .ok (.bipush 110, 2) := by decide +kernel
theorem dX7_reads_315 : decode cX7_reads 315 = .ok (.if_icmp .ne 9, 3) := by decide +kernel
theorem dX7_reads_318 : decode cX7_reads 318 = .ok (.sipush 383, 3) := by decide +kernel
theorem dX7_reads_321 : decode cX7_reads 321 = .ok (.goto 5, 3) := by decide +kernel
theorem dX7_reads_324 : decode cX7_reads 324 = .ok (.bipush 59, 2) := by decide +kernel
theorem dX7_reads_326 : decode cX7_reads 326 = .ok (.invokevirtual 191, 3) := by decide +kernel
theorem dX7_reads_329 : decode cX7_reads 329 = .ok (.goto 4, 3) := by decide +kernel
theorem dX7_reads_332 : decode cX7_reads 332 = .ok (.iconst 0, 1) := by decide +kernel
theorem dX7_reads_333 : decode cX7_reads 333 = .ok (.putfield 188, 3) := by decide +kernel
theorem dX7_reads_336 : decode cX7_reads 336 = .ok (.return_, 1) := by decide +kernel
set_option maxRecDepth 20000 in
theorem ggX7_isText_X7_reads : GoodIn wsX7_isText wsX7_reads := goodIn_r _ [8, 9, 2, 1, 10, 11, 12, 13, 14, 7, 15, 3, 16, 17, 18, 19, 20, 21, 22, 23, 24, 25, 26, 27, 28, 29, 30, 31, 32, 33, 34, 35, 36, 37, 38, 39, 40] (by decide +kernel) (by decide +kernel)
set_option maxRecDepth 20000 in
theorem gX7_isText_X7_reads : GoodIn wsX7_isText (wsV RX7 198 RX7 yX7_reads wsX7_reads) := goodIn_app (goodIn_of _ (by decide +kernel)) ggX7_isText_X7_reads
set_option maxRecDepth 20000 in
theorem ggX7_isText_X7_needs : GoodIn wsX7_isText wsX7_needs := goodIn_r _ [27, 2, 1, 12, 13, 14, 7, 15, 3, 16, 28, 29, 30, 31, 32, 33, 34, 35, 36, 37, 38, 39, 40] (by decide +kernel) (by decide +kernel)
set_option maxRecDepth 20000 in
theorem gX7_isText_X7_needs : GoodIn wsX7_isText (wsV RX7 194 RX7 yX7_needs wsX7_needs) := goodIn_app (goodIn_of _ (by decide +kernel)) ggX7_isText_X7_needs
theorem dX7_isText_0 : decode cX7_isText 0 = .ok (.aload_n 0, 1) := by decide +kernel
theorem dX7_isText_1 : decode cX7_isText 1 = .ok (.iconst 0, 1) := by decide +kernel
theorem dX7_isText_2 : decode cX7_isText 2 = .ok (.putfield 172, 3) := by decide +kernel
theorem dX7_isText_5 : decode cX7_isText 5 = .ok (.aload_n 0, 1) := by decide +kernel
theorem dX7_isText_6 : decode cX7_isText 6 = .ok (.invokevirtual 198, 3) := by decide +kernel
theorem dX7_isText_9 : decode cX7_isText 9 = .ok (.aload_n 0, 1) := by decide +kernel
theorem dX7_isText_10 : decode cX7_isText 10 = .ok (.getfield 175, 3) := by decide +kernel
theorem dX7_isText_13 : decode cX7_isText 13 = .ok (.ifCond .eq 34, 3) := by decide +kernel
theorem dX7_isText_16 : decode cX7_isText 16 = .ok (.aload_n 0, 1) := by decide +kernel
theorem dX7_isText_17 : decode cX7_isText 17 = .ok (.getfield 172, 3) := by decide +kernel
theorem dX7_isText_20 : decode cX7_isText 20 = .ok (.aload_n 0, 1) := by decide +kernel
theorem dX7_isText_21 : decode cX7_isText 21 = .ok (.getfield 169, 3) := by decide +kernel
theorem dX7_isText_24 : decode cX7_isText 24 = .ok (.if_icmp .ge 23, 3) := by decide +kernel
theorem dX7_isText_27 : decode cX7_isText 27 = .ok (.aload_n 0, 1) := by decide +kernel
theorem dX7_isText_28 : decode cX7_isText 28 = .ok (.bipush 59, 2) := by decide +kernel
theorem dX7_isText_30 : decode cX7_isText 30 = .ok (.invokevirtual 194, 3) := by decide +kernel
theorem dX7_isText_33 : decode cX7_isText 33 = .ok (.aload_n 0, 1) := by decide +kernel
theorem dX7_isText_34 : decode cX7_isText 34 = .ok (.getfield 175, 3) := by decide +kernel
theorem dX7_isText_37 : decode cX7_isText 37 = .ok (.ifCond .eq (-28), 3) := by decide +kernel
theorem dX7_isText_40 : decode cX7_isText 40 = .ok (.aload_n 0, 1) := by decide +kernel
theorem dX7_isText_41 : decode cX7_isText 41 = .ok (.invokevirtual 198, 3) := by decide +kernel
theorem dX7_isText_44 : decode cX7_isText 44 = .ok (.goto (-35), 3) := by decide +kernel
theorem dX7_isText_47 : decode cX7_isText 47 = .ok (.aload_n 0, 1) := by decide +kernel
theorem dX7_isText_48 : decode cX7_isText 48 = .ok (.getfield 175, 3) := by decide +kernel
theorem dX7_isText_51 : decode cX7_isText 51 = .ok (.ireturn, 1) := by decide +kernel
set_option maxRecDepth 20000 in
theorem ggX7_errorPosition_X7_isText : GoodIn wsX7_errorPosition wsX7_isText := goodIn_r _ [8, 3, 9, 2, 10, 11, 12, 7, 13, 14, 15, 16, 17, 18, 19, 20, 21, 22, 23, 24, 25, 26, 27, 28, 29, 30, 31, 32, 33, 34, 35, 36, 37, 38, 39, 40, 41, 42, 43, 44, 45] (by decide +kernel) (by decide +kernel)
set_option maxRecDepth 20000 in
theorem gX7_errorPosition_X7_isText : GoodIn wsX7_errorPosition (wsV RX7 201 RX7 yX7_isText wsX7_isText) := goodIn_app (goodIn_of _ (by decide +kernel)) ggX7_errorPosition_X7_isText
theorem dX7_errorPosition_0 : decode cX7_errorPosition 0 = .ok (.aload_n 0, 1) := by decide +kernel
theorem dX7_errorPosition_1 : decode cX7_errorPosition 1 = .ok (.iconst 0, 1) := by decide +kernel
theorem dX7_errorPosition_2 : decode cX7_errorPosition 2 = .ok (.putfield 22, 3) := by decide +kernel
theorem dX7_errorPosition_5 : decode cX7_errorPosition 5 = .ok (.aload_n 0, 1) := by decide +kernel
theorem dX7_errorPosition_6 : decode cX7_errorPosition 6 = .ok (.invokevirtual 201, 3) := by decide +kernel
theorem dX7_errorPosition_9 : decode cX7_errorPosition 9 = .ok (.ifCond .eq 10, 3) := by decide +kernel
theorem dX7_errorPosition_12 : decode cX7_errorPosition 12 = .ok (.aload_n 0, 1) := by decide +kernel
theorem dX7_errorPosition_13 : decode cX7_errorPosition 13 = .ok (.getfield 169, 3) := by decide +kernel
theorem dX7_errorPosition_16 : decode cX7_errorPosition 16 = .ok (.goto 7, 3) := by decide +kernel
theorem dX7_errorPosition_19 : decode cX7_errorPosition 19 = .ok (.aload_n 0, 1) := by decide +kernel
theorem dX7_errorPosition_20 : decode cX7_errorPosition 20 = .ok (.getfield 172, 3) := by decide +kernel
theorem dX7_errorPosition_23 : decode cX7_errorPosition 23 = .ok (.ireturn, 1) := by decide +kernel
set_option maxRecDepth 20000 in
theorem ggX7_carries_X7_refusal : GoodIn wsX7_carries wsX7_refusal := goodIn_r _ [10, 4, 11, 12, 9, 13, 14, 15, 16, 17, 18, 19, 20, 21, 22, 23, 24, 25, 26, 27, 28, 29, 30, 31, 32, 33, 34, 35, 36, 37, 38, 39, 40, 41, 42, 43, 44, 45, 46, 47, 48, 49, 50, 51, 52, 53, 54, 55, 56, 57, 58, 59, 60, 61, 62, 63, 64, 65, 66, 67, 68, 69, 70, 71, 72, 73, 74, 75, 76, 77, 78, 79, 80, 81, 82, 83, 84, 85, 86, 87, 88, 89, 90, 91, 92, 93, 94, 95, 96, 97, 98, 99, 124, 125, 126, 127, 128, 129, 130, 131, 132, 133, 134, 135, 136] (by decide +kernel) (by decide +kernel)
set_option maxRecDepth 20000 in
theorem gX7_carries_X7_refusal : GoodIn wsX7_carries (wsV RX7 124 RX7 yX7_refusal wsX7_refusal) := goodIn_app (goodIn_of _ (by decide +kernel)) ggX7_carries_X7_refusal
set_option maxRecDepth 20000 in
theorem ggX7_carries_X7_does : GoodIn wsX7_carries wsX7_does := goodIn_r _ [103, 4, 104, 105, 106, 9, 107, 21, 22, 23, 24, 39, 40, 41, 42, 43, 44, 45, 46, 47, 48, 49, 50, 25, 26, 27, 14, 15, 16, 28, 29, 30, 108, 109, 110, 111, 70, 71, 72, 73, 66, 67, 68, 69, 74, 75, 76, 77, 78, 79, 80, 81, 82, 83, 96, 97, 98, 99, 58, 59, 60, 61, 62, 63, 64, 65, 84, 85, 86, 87, 88, 89, 90, 91, 92, 93, 94, 95, 112, 113, 114, 115, 116, 117, 118, 119, 120, 121, 122, 123, 124, 125, 126, 127, 128, 129, 130, 131, 132, 133, 134, 135, 136] (by decide +kernel) (by decide +kernel)
set_option maxRecDepth 20000 in
theorem gX7_carries_X7_does : GoodIn wsX7_carries (wsV RX7 131 RX7 yX7_does wsX7_does) := goodIn_app (goodIn_of _ (by decide +kernel)) ggX7_carries_X7_does
theorem dX7_carries_0 : decode cX7_carries 0 = .ok (.iconst 0, 1) := by decide +kernel
theorem dX7_carries_1 : decode cX7_carries 1 = .ok (.istore_n 1, 1) := by decide +kernel
theorem dX7_carries_2 : decode cX7_carries 2 = .ok (.aload_n 0, 1) := by decide +kernel
theorem dX7_carries_3 : decode cX7_carries 3 = .ok (.getfield 182, 3) := by decide +kernel
theorem dX7_carries_6 : decode cX7_carries 6 = .ok (.bipush 115, 2) := by decide +kernel
theorem dX7_carries_8 : decode cX7_carries 8 = .ok (.if_icmp .eq 55, 3) := by decide +kernel
theorem dX7_carries_11 : decode cX7_carries 11 = .ok (.aload_n 0, 1) := by decide +kernel
theorem dX7_carries_12 : decode cX7_carries 12 = .ok (.aload_n 0, 1) := by decide +kernel
theorem dX7_carries_13 : decode cX7_carries 13 = .ok (.getfield 182, 3) := by decide +kernel
theorem dX7_carries_16 : decode cX7_carries 16 = .ok (.aload_n 0, 1) := by decide +kernel
theorem dX7_carries_17 : decode cX7_carries 17 = .ok (.getfield 185, 3) := by decide +kernel
theorem dX7_carries_20 : decode cX7_carries 20 = .ok (.aload_n 0, 1) := by decide +kernel
theorem dX7_carries_21 : decode cX7_carries 21 = .ok (.getfield 188, 3) := by decide +kernel
theorem dX7_carries_24 : decode cX7_carries 24 = .ok (.invokevirtual 124, 3) := by decide +kernel
theorem dX7_carries_27 : decode cX7_carries 27 = .ok (.ifCond .ne 7, 3) := by decide +kernel
theorem dX7_carries_30 : decode cX7_carries 30 = .ok (.iconst 1, 1) := by decide +kernel
theorem dX7_carries_31 : decode cX7_carries 31 = .ok (.goto 4, 3) := by decide +kernel
theorem dX7_carries_34 : decode cX7_carries 34 = .ok (.iconst 0, 1) := by decide +kernel
theorem dX7_carries_35 : decode cX7_carries 35 = .ok (.istore_n 2, 1) := by decide +kernel
theorem dX7_carries_36 : decode cX7_carries 36 = .ok (.iload_n 2, 1) := by decide +kernel
theorem dX7_carries_37 : decode cX7_carries 37 = .ok (.ifCond .eq 22, 3) := by decide +kernel
theorem dX7_carries_40 : decode cX7_carries 40 = .ok (.aload_n 0, 1) := by decide +kernel
theorem dX7_carries_41 : decode cX7_carries 41 = .ok (.aload_n 0, 1) := by decide +kernel
theorem dX7_carries_42 : decode cX7_carries 42 = .ok (.getfield 182, 3) := by decide +kernel
theorem dX7_carries_45 : decode cX7_carries 45 = .ok (.aload_n 0, 1) := by decide +kernel
theorem dX7_carries_46 : decode cX7_carries 46 = .ok (.getfield 185, 3) := by decide +kernel
theorem dX7_carries_49 : decode cX7_carries 49 = .ok (.aload_n 0, 1) := by decide +kernel
theorem dX7_carries_50 : decode cX7_carries 50 = .ok (.getfield 188, 3) := by decide +kernel
theorem dX7_carries_53 : decode cX7_carries 53 = .ok (.invokevirtual 131, 3) := by decide +kernel
theorem dX7_carries_56 : decode cX7_carries 56 = .ok (.goto 4, 3) := by decide +kernel
theorem dX7_carries_59 : decode cX7_carries 59 = .ok (.iconst 0, 1) := by decide +kernel
theorem dX7_carries_60 : decode cX7_carries 60 = .ok (.istore_n 1, 1) := by decide +kernel
theorem dX7_carries_61 : decode cX7_carries 61 = .ok (.iload_n 2, 1) := by decide +kernel
theorem dX7_carries_62 : decode cX7_carries 62 = .ok (.ireturn, 1) := by decide +kernel
theorem dX7_carries_63 : decode cX7_carries 63 = .ok (.aload_n 0, 1) := by decide +kernel
theorem dX7_carries_64 : decode cX7_carries 64 = .ok (.getfield 7, 3) := by decide +kernel
theorem dX7_carries_67 : decode cX7_carries 67 = .ok (.iconst 0, 1) := by decide +kernel
theorem dX7_carries_68 : decode cX7_carries 68 = .ok (.iaload, 1) := by decide +kernel
theorem dX7_carries_69 : decode cX7_carries 69 = .ok (.ifCond .le 7, 3) := by decide +kernel
theorem dX7_carries_72 : decode cX7_carries 72 = .ok (.iconst 1, 1) := by decide +kernel
theorem dX7_carries_73 : decode cX7_carries 73 = .ok (.goto 4, 3) := by decide +kernel
theorem dX7_carries_76 : decode cX7_carries 76 = .ok (.iconst 0, 1) := by decide +kernel
theorem dX7_carries_77 : decode cX7_carries 77 = .ok (.istore_n 2, 1) := by decide +kernel
theorem dX7_carries_78 : decode cX7_carries 78 = .ok (.aload_n 0, 1) := by decide +kernel
theorem dX7_carries_79 : decode cX7_carries 79 = .ok (.getfield 185, 3) := by decide +kernel
theorem dX7_carries_82 : decode cX7_carries 82 = .ok (.istore_n 3, 1) := by decide +kernel
theorem dX7_carries_83 : decode cX7_carries 83 = .ok (.iload_n 3, 1) := by decide +kernel
theorem dX7_carries_84 : decode cX7_carries 84 = .ok (.aload_n 0, 1) := by decide +kernel
theorem dX7_carries_85 : decode cX7_carries 85 = .ok (.getfield 185, 3) := by decide +kernel
theorem dX7_carries_88 : decode cX7_carries 88 = .ok (.aload_n 0, 1) := by decide +kernel
theorem dX7_carries_89 : decode cX7_carries 89 = .ok (.getfield 188, 3) := by decide +kernel
theorem dX7_carries_92 : decode cX7_carries 92 = .ok (.iadd, 1) := by decide +kernel
theorem dX7_carries_93 : decode cX7_carries 93 = .ok (.if_icmp .ge 81, 3) := by decide +kernel
theorem dX7_carries_96 : decode cX7_carries 96 = .ok (.iload_n 2, 1) := by decide +kernel
theorem dX7_carries_97 : decode cX7_carries 97 = .ok (.ifCond .eq 77, 3) := by decide +kernel
theorem dX7_carries_100 : decode cX7_carries 100 = .ok (.aload_n 0, 1) := by decide +kernel
theorem dX7_carries_101 : decode cX7_carries 101 = .ok (.aload_n 0, 1) := by decide +kernel
theorem dX7_carries_102 : decode cX7_carries 102 = .ok (.getfield 182, 3) := by decide +kernel
theorem dX7_carries_105 : decode cX7_carries 105 = .ok (.aload_n 0, 1) := by decide +kernel
theorem dX7_carries_106 : decode cX7_carries 106 = .ok (.getfield 7, 3) := by decide +kernel
theorem dX7_carries_109 : decode cX7_carries 109 = .ok (.iconst 0, 1) := by decide +kernel
theorem dX7_carries_110 : decode cX7_carries 110 = .ok (.iaload, 1) := by decide +kernel
theorem dX7_carries_111 : decode cX7_carries 111 = .ok (.iconst 1, 1) := by decide +kernel
theorem dX7_carries_112 : decode cX7_carries 112 = .ok (.isub, 1) := by decide +kernel
theorem dX7_carries_113 : decode cX7_carries 113 = .ok (.aload_n 0, 1) := by decide +kernel
theorem dX7_carries_114 : decode cX7_carries 114 = .ok (.getfield 19, 3) := by decide +kernel
theorem dX7_carries_117 : decode cX7_carries 117 = .ok (.iload_n 3, 1) := by decide +kernel
theorem dX7_carries_118 : decode cX7_carries 118 = .ok (.iaload, 1) := by decide +kernel
theorem dX7_carries_119 : decode cX7_carries 119 = .ok (.bipush 48, 2) := by decide +kernel
theorem dX7_carries_121 : decode cX7_carries 121 = .ok (.isub, 1) := by decide +kernel
theorem dX7_carries_122 : decode cX7_carries 122 = .ok (.invokevirtual 124, 3) := by decide +kernel
theorem dX7_carries_125 : decode cX7_carries 125 = .ok (.ifCond .ne 7, 3) := by decide +kernel
theorem dX7_carries_128 : decode cX7_carries 128 = .ok (.iconst 1, 1) := by decide +kernel
theorem dX7_carries_129 : decode cX7_carries 129 = .ok (.goto 4, 3) := by decide +kernel
theorem dX7_carries_132 : decode cX7_carries 132 = .ok (.iconst 0, 1) := by decide +kernel
theorem dX7_carries_133 : decode cX7_carries 133 = .ok (.istore_n 2, 1) := by decide +kernel
theorem dX7_carries_134 : decode cX7_carries 134 = .ok (.iload_n 2, 1) := by decide +kernel
theorem dX7_carries_135 : decode cX7_carries 135 = .ok (.ifCond .eq 31, 3) := by decide +kernel
theorem dX7_carries_138 : decode cX7_carries 138 = .ok (.aload_n 0, 1) := by decide +kernel
theorem dX7_carries_139 : decode cX7_carries 139 = .ok (.aload_n 0, 1) := by decide +kernel
theorem dX7_carries_140 : decode cX7_carries 140 = .ok (.getfield 182, 3) := by decide +kernel
theorem dX7_carries_143 : decode cX7_carries 143 = .ok (.aload_n 0, 1) := by decide +kernel
theorem dX7_carries_144 : decode cX7_carries 144 = .ok (.getfield 7, 3) := by decide +kernel
theorem dX7_carries_147 : decode cX7_carries 147 = .ok (.iconst 0, 1) := by decide +kernel
theorem dX7_carries_148 : decode cX7_carries 148 = .ok (.iaload, 1) := by decide +kernel
theorem dX7_carries_149 : decode cX7_carries 149 = .ok (.iconst 1, 1) := by decide +kernel
theorem dX7_carries_150 : decode cX7_carries 150 = .ok (.isub, 1) := by decide +kernel
theorem dX7_carries_151 : decode cX7_carries 151 = .ok (.aload_n 0, 1) := by decide +kernel
theorem dX7_carries_152 : decode cX7_carries 152 = .ok (.getfield 19, 3) := by decide +kernel
theorem dX7_carries_155 : decode cX7_carries 155 = .ok (.iload_n 3, 1) := by decide +kernel
theorem dX7_carries_156 : decode cX7_carries 156 = .ok (.iaload, 1) := by decide +kernel
theorem dX7_carries_157 : decode cX7_carries 157 = .ok (.bipush 48, 2) := by decide +kernel
theorem dX7_carries_159 : decode cX7_carries 159 = .ok (.isub, 1) := by decide +kernel
theorem dX7_carries_160 : decode cX7_carries 160 = .ok (.invokevirtual 131, 3) := by decide +kernel
theorem dX7_carries_163 : decode cX7_carries 163 = .ok (.goto 4, 3) := by decide +kernel
theorem dX7_carries_166 : decode cX7_carries 166 = .ok (.iconst 0, 1) := by decide +kernel
theorem dX7_carries_167 : decode cX7_carries 167 = .ok (.istore_n 1, 1) := by decide +kernel
theorem dX7_carries_168 : decode cX7_carries 168 = .ok (.iinc 3 1, 3) := by decide +kernel
theorem dX7_carries_171 : decode cX7_carries 171 = .ok (.goto (-88), 3) := by decide +kernel
theorem dX7_carries_174 : decode cX7_carries 174 = .ok (.iload_n 2, 1) := by decide +kernel
theorem dX7_carries_175 : decode cX7_carries 175 = .ok (.ireturn, 1) := by decide +kernel
set_option maxRecDepth 20000 in
theorem ggX7_runText_X7_isText : GoodIn wsX7_runText wsX7_isText := goodIn_r _ [8, 2, 9, 3, 10, 11, 12, 7, 13, 14, 15, 16, 17, 18, 19, 20, 21, 22, 23, 24, 25, 26, 27, 28, 29, 30, 31, 32, 162, 163, 164, 165, 166, 167, 168, 169, 170, 171, 172, 173, 174] (by decide +kernel) (by decide +kernel)
set_option maxRecDepth 20000 in
theorem gX7_runText_X7_isText : GoodIn wsX7_runText (wsV RX7 201 RX7 yX7_isText wsX7_isText) := goodIn_app (goodIn_of _ (by decide +kernel)) ggX7_runText_X7_isText
set_option maxRecDepth 20000 in
theorem ggX7_runText_X7_fails : GoodIn wsX7_runText wsX7_fails := goodIn_r _ [36, 1, 162, 163, 164, 165, 166, 167, 168, 169, 170, 171, 172, 173, 174] (by decide +kernel) (by decide +kernel)
set_option maxRecDepth 20000 in
theorem gX7_runText_X7_fails : GoodIn wsX7_runText (wsV RX7 137 RX7 yX7_fails wsX7_fails) := goodIn_app (goodIn_of _ (by decide +kernel)) ggX7_runText_X7_fails
set_option maxRecDepth 20000 in
theorem ggX7_runText_X7_records : GoodIn wsX7_runText wsX7_records := goodIn_r _ [40, 41, 42, 43, 162, 163, 164, 165, 166, 167, 168, 169, 170, 171, 172, 173, 174] (by decide +kernel) (by decide +kernel)
set_option maxRecDepth 20000 in
theorem gX7_runText_X7_records : GoodIn wsX7_runText (wsV RX7 128 RX7 yX7_records wsX7_records) := goodIn_app (goodIn_of _ (by decide +kernel)) ggX7_runText_X7_records
set_option maxRecDepth 20000 in
theorem ggX7_runText_X7_reads : GoodIn wsX7_runText wsX7_reads := goodIn_r _ [13, 14, 9, 2, 15, 16, 17, 18, 19, 7, 20, 3, 21, 22, 23, 24, 25, 26, 27, 28, 29, 30, 31, 32, 162, 163, 164, 165, 166, 167, 168, 169, 170, 171, 172, 173, 174] (by decide +kernel) (by decide +kernel)
set_option maxRecDepth 20000 in
theorem gX7_runText_X7_reads : GoodIn wsX7_runText (wsV RX7 198 RX7 yX7_reads wsX7_reads) := goodIn_app (goodIn_of _ (by decide +kernel)) ggX7_runText_X7_reads
set_option maxRecDepth 20000 in
theorem ggX7_runText_X7_carries : GoodIn wsX7_runText wsX7_carries := goodIn_r _ [47, 14, 15, 16, 43, 21, 48, 49, 50, 7, 51, 52, 53, 54, 22, 23, 24, 55, 56, 57, 58, 59, 60, 61, 62, 63, 64, 65, 66, 67, 68, 69, 70, 71, 72, 73, 74, 75, 76, 77, 78, 79, 80, 81, 82, 83, 84, 85, 86, 87, 88, 89, 90, 91, 92, 93, 94, 95, 96, 97, 98, 99, 100, 101, 102, 103, 104, 105, 106, 107, 108, 109, 110, 111, 112, 113, 114, 115, 116, 117, 118, 119, 120, 121, 122, 123, 124, 125, 126, 127, 128, 129, 130, 131, 132, 133, 134, 135, 136, 137, 138, 139, 140, 141, 142, 143, 144, 145, 146, 147, 148, 149, 150, 151, 152, 153, 154, 155, 156, 157, 158, 159, 160, 161, 162, 163, 164, 165, 166, 167, 168, 169, 170, 171, 172, 173, 174] (by decide +kernel) (by decide +kernel)
set_option maxRecDepth 20000 in
theorem gX7_runText_X7_carries : GoodIn wsX7_runText (wsV RX7 205 RX7 yX7_carries wsX7_carries) := goodIn_app (goodIn_of _ (by decide +kernel)) ggX7_runText_X7_carries
theorem dX7_runText_0 : decode cX7_runText 0 = .ok (.aload_n 0, 1) := by decide +kernel
theorem dX7_runText_1 : decode cX7_runText 1 = .ok (.iconst 0, 1) := by decide +kernel
theorem dX7_runText_2 : decode cX7_runText 2 = .ok (.putfield 22, 3) := by decide +kernel
theorem dX7_runText_5 : decode cX7_runText 5 = .ok (.aload_n 0, 1) := by decide +kernel
theorem dX7_runText_6 : decode cX7_runText 6 = .ok (.invokevirtual 201, 3) := by decide +kernel
theorem dX7_runText_9 : decode cX7_runText 9 = .ok (.ifCond .ne 9, 3) := by decide +kernel
theorem dX7_runText_12 : decode cX7_runText 12 = .ok (.aload_n 0, 1) := by decide +kernel
theorem dX7_runText_13 : decode cX7_runText 13 = .ok (.iconst 1, 1) := by decide +kernel
theorem dX7_runText_14 : decode cX7_runText 14 = .ok (.invokevirtual 137, 3) := by decide +kernel
theorem dX7_runText_17 : decode cX7_runText 17 = .ok (.ireturn, 1) := by decide +kernel
theorem dX7_runText_18 : decode cX7_runText 18 = .ok (.aload_n 0, 1) := by decide +kernel
theorem dX7_runText_19 : decode cX7_runText 19 = .ok (.invokevirtual 128, 3) := by decide +kernel
theorem dX7_runText_22 : decode cX7_runText 22 = .ok (.iconst 0, 1) := by decide +kernel
theorem dX7_runText_23 : decode cX7_runText 23 = .ok (.istore_n 1, 1) := by decide +kernel
theorem dX7_runText_24 : decode cX7_runText 24 = .ok (.iconst 1, 1) := by decide +kernel
theorem dX7_runText_25 : decode cX7_runText 25 = .ok (.istore_n 2, 1) := by decide +kernel
theorem dX7_runText_26 : decode cX7_runText 26 = .ok (.aload_n 0, 1) := by decide +kernel
theorem dX7_runText_27 : decode cX7_runText 27 = .ok (.iconst 0, 1) := by decide +kernel
theorem dX7_runText_28 : decode cX7_runText 28 = .ok (.putfield 172, 3) := by decide +kernel
theorem dX7_runText_31 : decode cX7_runText 31 = .ok (.iload_n 2, 1) := by decide +kernel
theorem dX7_runText_32 : decode cX7_runText 32 = .ok (.ifCond .eq 48, 3) := by decide +kernel
theorem dX7_runText_35 : decode cX7_runText 35 = .ok (.aload_n 0, 1) := by decide +kernel
theorem dX7_runText_36 : decode cX7_runText 36 = .ok (.getfield 172, 3) := by decide +kernel
theorem dX7_runText_39 : decode cX7_runText 39 = .ok (.aload_n 0, 1) := by decide +kernel
theorem dX7_runText_40 : decode cX7_runText 40 = .ok (.getfield 169, 3) := by decide +kernel
theorem dX7_runText_43 : decode cX7_runText 43 = .ok (.if_icmp .ge 37, 3) := by decide +kernel
theorem dX7_runText_46 : decode cX7_runText 46 = .ok (.aload_n 0, 1) := by decide +kernel
theorem dX7_runText_47 : decode cX7_runText 47 = .ok (.invokevirtual 198, 3) := by decide +kernel
theorem dX7_runText_50 : decode cX7_runText 50 = .ok (.aload_n 0, 1) := by decide +kernel
theorem dX7_runText_51 : decode cX7_runText 51 = .ok (.dup, 1) := by decide +kernel
theorem dX7_runText_52 : decode cX7_runText 52 = .ok (.getfield 172, 3) := by decide +kernel
theorem dX7_runText_55 : decode cX7_runText 55 = .ok (.iconst 1, 1) := by decide +kernel
theorem dX7_runText_56 : decode cX7_runText 56 = .ok (.iadd, 1) := by decide +kernel
theorem dX7_runText_57 : decode cX7_runText 57 = .ok (.putfield 172, 3) := by decide +kernel
theorem dX7_runText_60 : decode cX7_runText 60 = .ok (.aload_n 0, 1) := by decide +kernel
theorem dX7_runText_61 : decode cX7_runText 61 = .ok (.invokevirtual 205, 3) := by decide +kernel
theorem dX7_runText_64 : decode cX7_runText 64 = .ok (.istore_n 2, 1) := by decide +kernel
theorem dX7_runText_65 : decode cX7_runText 65 = .ok (.iload_n 1, 1) := by decide +kernel
theorem dX7_runText_66 : decode cX7_runText 66 = .ok (.iload_n 2, 1) := by decide +kernel
theorem dX7_runText_67 : decode cX7_runText 67 = .ok (.ifCond .eq 7, 3) := by decide +kernel
theorem dX7_runText_70 : decode cX7_runText 70 = .ok (.iconst 1, 1) := by decide +kernel
theorem dX7_runText_71 : decode cX7_runText 71 = .ok (.goto 4, 3) := by decide +kernel
theorem dX7_runText_74 : decode cX7_runText 74 = .ok (.iconst 0, 1) := by decide +kernel
theorem dX7_runText_75 : decode cX7_runText 75 = .ok (.iadd, 1) := by decide +kernel
theorem dX7_runText_76 : decode cX7_runText 76 = .ok (.istore_n 1, 1) := by decide +kernel
theorem dX7_runText_77 : decode cX7_runText 77 = .ok (.goto (-46), 3) := by decide +kernel
theorem dX7_runText_80 : decode cX7_runText 80 = .ok (.iload_n 1, 1) := by decide +kernel
theorem dX7_runText_81 : decode cX7_runText 81 = .ok (.ireturn, 1) := by decide +kernel
set_option maxRecDepth 20000 in
theorem ggX7_undo_X7_fails : GoodIn wsX7_undo wsX7_fails := goodIn_r _ [9, 1, 10, 11, 12, 13, 14, 15, 16, 17, 18, 19, 20, 21, 22] (by decide +kernel) (by decide +kernel)
set_option maxRecDepth 20000 in
theorem gX7_undo_X7_fails : GoodIn wsX7_undo (wsV RX7 137 RX7 yX7_fails wsX7_fails) := goodIn_app (goodIn_of _ (by decide +kernel)) ggX7_undo_X7_fails
theorem dX7_undo_0 : decode cX7_undo 0 = .ok (.aload_n 0, 1) := by decide +kernel
theorem dX7_undo_1 : decode cX7_undo 1 = .ok (.iconst 0, 1) := by decide +kernel
theorem dX7_undo_2 : decode cX7_undo 2 = .ok (.putfield 22, 3) := by decide +kernel
theorem dX7_undo_5 : decode cX7_undo 5 = .ok (.aload_n 0, 1) := by decide +kernel
theorem dX7_undo_6 : decode cX7_undo 6 = .ok (.getfield 92, 3) := by decide +kernel
theorem dX7_undo_9 : decode cX7_undo 9 = .ok (.ifCond .ne 9, 3) := by decide +kernel
theorem dX7_undo_12 : decode cX7_undo 12 = .ok (.aload_n 0, 1) := by decide +kernel
theorem dX7_undo_13 : decode cX7_undo 13 = .ok (.iconst 1, 1) := by decide +kernel
theorem dX7_undo_14 : decode cX7_undo 14 = .ok (.invokevirtual 137, 3) := by decide +kernel
theorem dX7_undo_17 : decode cX7_undo 17 = .ok (.ireturn, 1) := by decide +kernel
theorem dX7_undo_18 : decode cX7_undo 18 = .ok (.aload_n 0, 1) := by decide +kernel
theorem dX7_undo_19 : decode cX7_undo 19 = .ok (.dup, 1) := by decide +kernel
theorem dX7_undo_20 : decode cX7_undo 20 = .ok (.getfield 92, 3) := by decide +kernel
theorem dX7_undo_23 : decode cX7_undo 23 = .ok (.iconst 1, 1) := by decide +kernel
theorem dX7_undo_24 : decode cX7_undo 24 = .ok (.isub, 1) := by decide +kernel
theorem dX7_undo_25 : decode cX7_undo 25 = .ok (.putfield 92, 3) := by decide +kernel
theorem dX7_undo_28 : decode cX7_undo 28 = .ok (.iconst 0, 1) := by decide +kernel
theorem dX7_undo_29 : decode cX7_undo 29 = .ok (.istore_n 1, 1) := by decide +kernel
theorem dX7_undo_30 : decode cX7_undo 30 = .ok (.iload_n 1, 1) := by decide +kernel
theorem dX7_undo_31 : decode cX7_undo 31 = .ok (.sipush 514, 3) := by decide +kernel
theorem dX7_undo_34 : decode cX7_undo 34 = .ok (.if_icmp .ge 30, 3) := by decide +kernel
theorem dX7_undo_37 : decode cX7_undo 37 = .ok (.aload_n 0, 1) := by decide +kernel
theorem dX7_undo_38 : decode cX7_undo 38 = .ok (.getfield 7, 3) := by decide +kernel
theorem dX7_undo_41 : decode cX7_undo 41 = .ok (.iload_n 1, 1) := by decide +kernel
theorem dX7_undo_42 : decode cX7_undo 42 = .ok (.aload_n 0, 1) := by decide +kernel
theorem dX7_undo_43 : decode cX7_undo 43 = .ok (.getfield 13, 3) := by decide +kernel
theorem dX7_undo_46 : decode cX7_undo 46 = .ok (.sipush 514, 3) := by decide +kernel
theorem dX7_undo_49 : decode cX7_undo 49 = .ok (.aload_n 0, 1) := by decide +kernel
theorem dX7_undo_50 : decode cX7_undo 50 = .ok (.getfield 92, 3) := by decide +kernel
theorem dX7_undo_53 : decode cX7_undo 53 = .ok (.imul, 1) := by decide +kernel
theorem dX7_undo_54 : decode cX7_undo 54 = .ok (.iload_n 1, 1) := by decide +kernel
theorem dX7_undo_55 : decode cX7_undo 55 = .ok (.iadd, 1) := by decide +kernel
theorem dX7_undo_56 : decode cX7_undo 56 = .ok (.iaload, 1) := by decide +kernel
theorem dX7_undo_57 : decode cX7_undo 57 = .ok (.iastore, 1) := by decide +kernel
theorem dX7_undo_58 : decode cX7_undo 58 = .ok (.iinc 1 1, 3) := by decide +kernel
theorem dX7_undo_61 : decode cX7_undo 61 = .ok (.goto (-31), 3) := by decide +kernel
theorem dX7_undo_64 : decode cX7_undo 64 = .ok (.aload_n 0, 1) := by decide +kernel
theorem dX7_undo_65 : decode cX7_undo 65 = .ok (.getfield 92, 3) := by decide +kernel
theorem dX7_undo_68 : decode cX7_undo 68 = .ok (.ireturn, 1) := by decide +kernel
theorem dX7_savedStates_0 : decode cX7_savedStates 0 = .ok (.aload_n 0, 1) := by decide +kernel
theorem dX7_savedStates_1 : decode cX7_savedStates 1 = .ok (.iconst 0, 1) := by decide +kernel
theorem dX7_savedStates_2 : decode cX7_savedStates 2 = .ok (.putfield 22, 3) := by decide +kernel
theorem dX7_savedStates_5 : decode cX7_savedStates 5 = .ok (.aload_n 0, 1) := by decide +kernel
theorem dX7_savedStates_6 : decode cX7_savedStates 6 = .ok (.getfield 92, 3) := by decide +kernel
theorem dX7_savedStates_9 : decode cX7_savedStates 9 = .ok (.ireturn, 1) := by decide +kernel
theorem dX7_takeSnapshot_0 : decode cX7_takeSnapshot 0 = .ok (.aload_n 0, 1) := by decide +kernel
theorem dX7_takeSnapshot_1 : decode cX7_takeSnapshot 1 = .ok (.iconst 0, 1) := by decide +kernel
theorem dX7_takeSnapshot_2 : decode cX7_takeSnapshot 2 = .ok (.putfield 22, 3) := by decide +kernel
theorem dX7_takeSnapshot_5 : decode cX7_takeSnapshot 5 = .ok (.aload_n 0, 1) := by decide +kernel
theorem dX7_takeSnapshot_6 : decode cX7_takeSnapshot 6 = .ok (.iconst 1, 1) := by decide +kernel
theorem dX7_takeSnapshot_7 : decode cX7_takeSnapshot 7 = .ok (.putfield 208, 3) := by decide +kernel
theorem dX7_takeSnapshot_10 : decode cX7_takeSnapshot 10 = .ok (.iconst 0, 1) := by decide +kernel
theorem dX7_takeSnapshot_11 : decode cX7_takeSnapshot 11 = .ok (.istore_n 1, 1) := by decide +kernel
theorem dX7_takeSnapshot_12 : decode cX7_takeSnapshot 12 = .ok (.iload_n 1, 1) := by decide +kernel
