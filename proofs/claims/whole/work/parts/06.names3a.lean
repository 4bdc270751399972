theorem dX7_whyNoLabel_52 : decode cX7_whyNoLabel 52 = .ok (.bipush 24, 2) := by decide +kernel
theorem dX7_whyNoLabel_54 : decode cX7_whyNoLabel 54 = .ok (.idiv, 1) := by decide +kernel
theorem dX7_whyNoLabel_55 : decode cX7_whyNoLabel 55 = .ok (.invokestatic 61, 3) := by decide +kernel
theorem dX7_whyNoLabel_58 : decode cX7_whyNoLabel 58 = .ok (.iload_n 3, 1) := by decide +kernel
theorem dX7_whyNoLabel_59 : decode cX7_whyNoLabel 59 = .ok (.bipush 24, 2) := by decide +kernel
theorem dX7_whyNoLabel_61 : decode cX7_whyNoLabel 61 = .ok (.irem, 1) := by decide +kernel
theorem dX7_whyNoLabel_62 : decode cX7_whyNoLabel 62 = .ok (.iload 4, 2) := by decide +kernel
theorem dX7_whyNoLabel_64 : decode cX7_whyNoLabel 64 = .ok (.bipush 24, 2) := by decide +kernel
theorem dX7_whyNoLabel_66 : decode cX7_whyNoLabel 66 = .ok (.irem, 1) := by decide +kernel
theorem dX7_whyNoLabel_67 : decode cX7_whyNoLabel 67 = .ok (.invokestatic 61, 3) := by decide +kernel
theorem dX7_whyNoLabel_70 : decode cX7_whyNoLabel 70 = .ok (.if_icmp .le 5, 3) := by decide +kernel
theorem dX7_whyNoLabel_73 : decode cX7_whyNoLabel 73 = .ok (.iconst 3, 1) := by decide +kernel
theorem dX7_whyNoLabel_74 : decode cX7_whyNoLabel 74 = .ok (.ireturn, 1) := by decide +kernel
theorem dX7_whyNoLabel_75 : decode cX7_whyNoLabel 75 = .ok (.aload_n 0, 1) := by decide +kernel
theorem dX7_whyNoLabel_76 : decode cX7_whyNoLabel 76 = .ok (.iload_n 1, 1) := by decide +kernel
theorem dX7_whyNoLabel_77 : decode cX7_whyNoLabel 77 = .ok (.iload_n 2, 1) := by decide +kernel
theorem dX7_whyNoLabel_78 : decode cX7_whyNoLabel 78 = .ok (.invokevirtual 86, 3) := by decide +kernel
theorem dX7_whyNoLabel_81 : decode cX7_whyNoLabel 81 = .ok (.aload_n 0, 1) := by decide +kernel
theorem dX7_whyNoLabel_82 : decode cX7_whyNoLabel 82 = .ok (.getfield 7, 3) := by decide +kernel
theorem dX7_whyNoLabel_85 : decode cX7_whyNoLabel 85 = .ok (.iconst 1, 1) := by decide +kernel
theorem dX7_whyNoLabel_86 : decode cX7_whyNoLabel 86 = .ok (.iaload, 1) := by decide +kernel
theorem dX7_whyNoLabel_87 : decode cX7_whyNoLabel 87 = .ok (.if_icmp .ge 7, 3) := by decide +kernel
theorem dX7_whyNoLabel_90 : decode cX7_whyNoLabel 90 = .ok (.iconst 4, 1) := by decide +kernel
theorem dX7_whyNoLabel_91 : decode cX7_whyNoLabel 91 = .ok (.goto 4, 3) := by decide +kernel
theorem dX7_whyNoLabel_94 : decode cX7_whyNoLabel 94 = .ok (.iconst 0, 1) := by decide +kernel
theorem dX7_whyNoLabel_95 : decode cX7_whyNoLabel 95 = .ok (.ireturn, 1) := by decide +kernel
set_option maxRecDepth 200000 in
theorem ggX7_best_X7_of : GoodIn wsX7_best wsX7_of := goodIn_r _ [5, 6, 66, 67, 68, 69, 70, 71, 72, 73, 74, 75, 76, 77, 78] rfl (by decide +kernel)
set_option maxRecDepth 200000 in
theorem gX7_best_X7_of : GoodIn wsX7_best (wsV RX7 37 RX7 yX7_of wsX7_of) := goodIn_app (goodIn_of _ (by decide +kernel)) ggX7_best_X7_of
set_option maxRecDepth 200000 in
theorem ggX7_best_X7_whyNoLabel : GoodIn wsX7_best wsX7_whyNoLabel := goodIn_r _ [10, 6, 11, 12, 13, 4, 14, 15, 16, 17, 18, 1, 2, 3, 5, 19, 20, 21, 22, 23, 24, 25, 26, 27, 28, 29, 30, 31, 32, 33, 34, 35, 36, 37, 38, 39, 40, 41, 42, 43, 44, 45, 46, 47, 48, 49, 50, 51, 52, 53, 54, 55, 56, 57, 58, 59, 60, 61, 62, 63, 64, 65, 66, 67, 68, 69, 70, 71, 72, 73, 74, 75, 76, 77, 78] rfl (by decide +kernel)
set_option maxRecDepth 200000 in
theorem gX7_best_X7_whyNoLabel : GoodIn wsX7_best (wsV RX7 89 RX7 yX7_whyNoLabel wsX7_whyNoLabel) := goodIn_app (goodIn_of _ (by decide +kernel)) ggX7_best_X7_whyNoLabel
set_option maxRecDepth 200000 in
theorem ggX7_best_X7_bends : GoodIn wsX7_best wsX7_bends := goodIn_r _ [43, 15, 16, 17, 4, 18, 1, 2, 3, 5, 6, 34, 35, 36, 44, 45, 46, 47, 48, 49, 50, 51, 52, 53, 19, 20, 21, 22, 23, 24, 25, 26, 27, 28, 29, 30, 31, 32, 33, 37, 38, 39, 66, 67, 68, 69, 70, 71, 72, 73, 74, 75, 76, 77, 78] rfl (by decide +kernel)
set_option maxRecDepth 200000 in
theorem gX7_best_X7_bends : GoodIn wsX7_best (wsV RX7 83 RX7 yX7_bends wsX7_bends) := goodIn_app (goodIn_of _ (by decide +kernel)) ggX7_best_X7_bends
set_option maxRecDepth 200000 in
theorem ggX7_best_X7_free : GoodIn wsX7_best wsX7_free := goodIn_r _ [57, 6, 1, 2, 3, 4, 5, 58, 59, 60, 61, 15, 16, 17, 18, 27, 28, 29, 30, 31, 32, 33, 34, 35, 36, 37, 38, 39, 62, 63, 64, 65, 51, 52, 53, 66, 67, 68, 69, 70, 71, 72, 73, 74, 75, 76, 77, 78] rfl (by decide +kernel)
set_option maxRecDepth 200000 in
theorem gX7_best_X7_free : GoodIn wsX7_best (wsV RX7 86 RX7 yX7_free wsX7_free) := goodIn_app (goodIn_of _ (by decide +kernel)) ggX7_best_X7_free
theorem dX7_best_0 : decode cX7_best 0 = .ok (.iconst (-1), 1) := by decide +kernel
theorem dX7_best_1 : decode cX7_best 1 = .ok (.istore_n 2, 1) := by decide +kernel
theorem dX7_best_2 : decode cX7_best 2 = .ok (.iconst 0, 1) := by decide +kernel
theorem dX7_best_3 : decode cX7_best 3 = .ok (.istore_n 3, 1) := by decide +kernel
theorem dX7_best_4 : decode cX7_best 4 = .ok (.iconst 0, 1) := by decide +kernel
theorem dX7_best_5 : decode cX7_best 5 = .ok (.istore 4, 2) := by decide +kernel
theorem dX7_best_7 : decode cX7_best 7 = .ok (.iconst 0, 1) := by decide +kernel
theorem dX7_best_8 : decode cX7_best 8 = .ok (.istore 5, 2) := by decide +kernel
theorem dX7_best_10 : decode cX7_best 10 = .ok (.iload 5, 2) := by decide +kernel
theorem dX7_best_12 : decode cX7_best 12 = .ok (.aload_n 0, 1) := by decide +kernel
theorem dX7_best_13 : decode cX7_best 13 = .ok (.iload_n 1, 1) := by decide +kernel
theorem dX7_best_14 : decode cX7_best 14 = .ok (.iconst 2, 1) := by decide +kernel
theorem dX7_best_15 : decode cX7_best 15 = .ok (.invokevirtual 37, 3) := by decide +kernel
theorem dX7_best_18 : decode cX7_best 18 = .ok (.if_icmp .gt 106, 3) := by decide +kernel
theorem dX7_best_21 : decode cX7_best 21 = .ok (.aload_n 0, 1) := by decide +kernel
theorem dX7_best_22 : decode cX7_best 22 = .ok (.iload_n 1, 1) := by decide +kernel
theorem dX7_best_23 : decode cX7_best 23 = .ok (.iload 5, 2) := by decide +kernel
theorem dX7_best_25 : decode cX7_best 25 = .ok (.invokevirtual 89, 3) := by decide +kernel
theorem dX7_best_28 : decode cX7_best 28 = .ok (.ifCond .ne 90, 3) := by decide +kernel
theorem dX7_best_31 : decode cX7_best 31 = .ok (.aload_n 0, 1) := by decide +kernel
theorem dX7_best_32 : decode cX7_best 32 = .ok (.iload_n 1, 1) := by decide +kernel
theorem dX7_best_33 : decode cX7_best 33 = .ok (.iload 5, 2) := by decide +kernel
theorem dX7_best_35 : decode cX7_best 35 = .ok (.invokevirtual 83, 3) := by decide +kernel
theorem dX7_best_38 : decode cX7_best 38 = .ok (.istore 6, 2) := by decide +kernel
theorem dX7_best_40 : decode cX7_best 40 = .ok (.aload_n 0, 1) := by decide +kernel
theorem dX7_best_41 : decode cX7_best 41 = .ok (.iload_n 1, 1) := by decide +kernel
theorem dX7_best_42 : decode cX7_best 42 = .ok (.iload 5, 2) := by decide +kernel
theorem dX7_best_44 : decode cX7_best 44 = .ok (.invokevirtual 86, 3) := by decide +kernel
theorem dX7_best_47 : decode cX7_best 47 = .ok (.istore 7, 2) := by decide +kernel
theorem dX7_best_49 : decode cX7_best 49 = .ok (.iload_n 2, 1) := by decide +kernel
theorem dX7_best_50 : decode cX7_best 50 = .ok (.iconst (-1), 1) := by decide +kernel
theorem dX7_best_51 : decode cX7_best 51 = .ok (.if_icmp .eq 22, 3) := by decide +kernel
theorem dX7_best_54 : decode cX7_best 54 = .ok (.iload 6, 2) := by decide +kernel
theorem dX7_best_56 : decode cX7_best 56 = .ok (.iload_n 3, 1) := by decide +kernel
theorem dX7_best_57 : decode cX7_best 57 = .ok (.if_icmp .lt 16, 3) := by decide +kernel
theorem dX7_best_60 : decode cX7_best 60 = .ok (.iload 6, 2) := by decide +kernel
theorem dX7_best_62 : decode cX7_best 62 = .ok (.iload_n 3, 1) := by decide +kernel
theorem dX7_best_63 : decode cX7_best 63 = .ok (.if_icmp .ne 14, 3) := by decide +kernel
theorem dX7_best_66 : decode cX7_best 66 = .ok (.iload 7, 2) := by decide +kernel
theorem dX7_best_68 : decode cX7_best 68 = .ok (.iload 4, 2) := by decide +kernel
theorem dX7_best_70 : decode cX7_best 70 = .ok (.if_icmp .le 7, 3) := by decide +kernel
theorem dX7_best_73 : decode cX7_best 73 = .ok (.iconst 1, 1) := by decide +kernel
theorem dX7_best_74 : decode cX7_best 74 = .ok (.goto 4, 3) := by decide +kernel
theorem dX7_best_77 : decode cX7_best 77 = .ok (.iconst 0, 1) := by decide +kernel
theorem dX7_best_78 : decode cX7_best 78 = .ok (.istore 8, 2) := by decide +kernel
theorem dX7_best_80 : decode cX7_best 80 = .ok (.iload 8, 2) := by decide +kernel
theorem dX7_best_82 : decode cX7_best 82 = .ok (.ifCond .eq 8, 3) := by decide +kernel
theorem dX7_best_85 : decode cX7_best 85 = .ok (.iload 5, 2) := by decide +kernel
theorem dX7_best_87 : decode cX7_best 87 = .ok (.goto 4, 3) := by decide +kernel
theorem dX7_best_90 : decode cX7_best 90 = .ok (.iload_n 2, 1) := by decide +kernel
theorem dX7_best_91 : decode cX7_best 91 = .ok (.istore_n 2, 1) := by decide +kernel
theorem dX7_best_92 : decode cX7_best 92 = .ok (.iload 8, 2) := by decide +kernel
theorem dX7_best_94 : decode cX7_best 94 = .ok (.ifCond .eq 8, 3) := by decide +kernel
theorem dX7_best_97 : decode cX7_best 97 = .ok (.iload 6, 2) := by decide +kernel
theorem dX7_best_99 : decode cX7_best 99 = .ok (.goto 4, 3) := by decide +kernel
theorem dX7_best_102 : decode cX7_best 102 = .ok (.iload_n 3, 1) := by decide +kernel
theorem dX7_best_103 : decode cX7_best 103 = .ok (.istore_n 3, 1) := by decide +kernel
theorem dX7_best_104 : decode cX7_best 104 = .ok (.iload 8, 2) := by decide +kernel
theorem dX7_best_106 : decode cX7_best 106 = .ok (.ifCond .eq 8, 3) := by decide +kernel
theorem dX7_best_109 : decode cX7_best 109 = .ok (.iload 7, 2) := by decide +kernel
theorem dX7_best_111 : decode cX7_best 111 = .ok (.goto 5, 3) := by decide +kernel
theorem dX7_best_114 : decode cX7_best 114 = .ok (.iload 4, 2) := by decide +kernel
theorem dX7_best_116 : decode cX7_best 116 = .ok (.istore 4, 2) := by decide +kernel
theorem dX7_best_118 : decode cX7_best 118 = .ok (.iinc 5 1, 3) := by decide +kernel
theorem dX7_best_121 : decode cX7_best 121 = .ok (.goto (-111), 3) := by decide +kernel
theorem dX7_best_124 : decode cX7_best 124 = .ok (.iload_n 2, 1) := by decide +kernel
theorem dX7_best_125 : decode cX7_best 125 = .ok (.ireturn, 1) := by decide +kernel
set_option maxRecDepth 200000 in
theorem ggX7_labelled_X7_of : GoodIn wsX7_labelled wsX7_of := goodIn_r _ [6, 1, 7, 8, 9, 10, 11, 12, 13, 14, 15, 16, 17, 18, 19] rfl (by decide +kernel)
set_option maxRecDepth 200000 in
theorem gX7_labelled_X7_of : GoodIn wsX7_labelled (wsV RX7 37 RX7 yX7_of wsX7_of) := goodIn_app (goodIn_of _ (by decide +kernel)) ggX7_labelled_X7_of
theorem dX7_labelled_0 : decode cX7_labelled 0 = .ok (.iconst 0, 1) := by decide +kernel
theorem dX7_labelled_1 : decode cX7_labelled 1 = .ok (.istore_n 1, 1) := by decide +kernel
theorem dX7_labelled_2 : decode cX7_labelled 2 = .ok (.iconst 0, 1) := by decide +kernel
theorem dX7_labelled_3 : decode cX7_labelled 3 = .ok (.istore_n 2, 1) := by decide +kernel
theorem dX7_labelled_4 : decode cX7_labelled 4 = .ok (.iload_n 2, 1) := by decide +kernel
theorem dX7_labelled_5 : decode cX7_labelled 5 = .ok (.aload_n 0, 1) := by decide +kernel
theorem dX7_labelled_6 : decode cX7_labelled 6 = .ok (.getfield 7, 3) := by decide +kernel
theorem dX7_labelled_9 : decode cX7_labelled 9 = .ok (.iconst 0, 1) := by decide +kernel
theorem dX7_labelled_10 : decode cX7_labelled 10 = .ok (.iaload, 1) := by decide +kernel
theorem dX7_labelled_11 : decode cX7_labelled 11 = .ok (.if_icmp .ge 27, 3) := by decide +kernel
theorem dX7_labelled_14 : decode cX7_labelled 14 = .ok (.iload_n 1, 1) := by decide +kernel
theorem dX7_labelled_15 : decode cX7_labelled 15 = .ok (.aload_n 0, 1) := by decide +kernel
theorem dX7_labelled_16 : decode cX7_labelled 16 = .ok (.iload_n 2, 1) := by decide +kernel
theorem dX7_labelled_17 : decode cX7_labelled 17 = .ok (.iconst 3, 1) := by decide +kernel
theorem dX7_labelled_18 : decode cX7_labelled 18 = .ok (.invokevirtual 37, 3) := by decide +kernel
theorem dX7_labelled_21 : decode cX7_labelled 21 = .ok (.iconst (-1), 1) := by decide +kernel
theorem dX7_labelled_22 : decode cX7_labelled 22 = .ok (.if_icmp .eq 7, 3) := by decide +kernel
theorem dX7_labelled_25 : decode cX7_labelled 25 = .ok (.iconst 1, 1) := by decide +kernel
theorem dX7_labelled_26 : decode cX7_labelled 26 = .ok (.goto 4, 3) := by decide +kernel
theorem dX7_labelled_29 : decode cX7_labelled 29 = .ok (.iconst 0, 1) := by decide +kernel
theorem dX7_labelled_30 : decode cX7_labelled 30 = .ok (.iadd, 1) := by decide +kernel
theorem dX7_labelled_31 : decode cX7_labelled 31 = .ok (.istore_n 1, 1) := by decide +kernel
theorem dX7_labelled_32 : decode cX7_labelled 32 = .ok (.iinc 2 1, 3) := by decide +kernel
theorem dX7_labelled_35 : decode cX7_labelled 35 = .ok (.goto (-31), 3) := by decide +kernel
theorem dX7_labelled_38 : decode cX7_labelled 38 = .ok (.iload_n 1, 1) := by decide +kernel
theorem dX7_labelled_39 : decode cX7_labelled 39 = .ok (.ireturn, 1) := by decide +kernel
set_option maxRecDepth 200000 in
theorem ggX7_byLevel_X7_of : GoodIn wsX7_byLevel wsX7_of := goodIn_r _ [6, 1, 7, 8, 9, 10, 11, 12, 13, 14, 15, 16, 17, 18, 19] rfl (by decide +kernel)
set_option maxRecDepth 200000 in
theorem gX7_byLevel_X7_of : GoodIn wsX7_byLevel (wsV RX7 37 RX7 yX7_of wsX7_of) := goodIn_app (goodIn_of _ (by decide +kernel)) ggX7_byLevel_X7_of
theorem dX7_byLevel_0 : decode cX7_byLevel 0 = .ok (.iconst (-1), 1) := by decide +kernel
theorem dX7_byLevel_1 : decode cX7_byLevel 1 = .ok (.istore_n 2, 1) := by decide +kernel
theorem dX7_byLevel_2 : decode cX7_byLevel 2 = .ok (.iconst 0, 1) := by decide +kernel
theorem dX7_byLevel_3 : decode cX7_byLevel 3 = .ok (.istore_n 3, 1) := by decide +kernel
theorem dX7_byLevel_4 : decode cX7_byLevel 4 = .ok (.iload_n 3, 1) := by decide +kernel
theorem dX7_byLevel_5 : decode cX7_byLevel 5 = .ok (.aload_n 0, 1) := by decide +kernel
theorem dX7_byLevel_6 : decode cX7_byLevel 6 = .ok (.getfield 7, 3) := by decide +kernel
theorem dX7_byLevel_9 : decode cX7_byLevel 9 = .ok (.iconst 0, 1) := by decide +kernel
theorem dX7_byLevel_10 : decode cX7_byLevel 10 = .ok (.iaload, 1) := by decide +kernel
theorem dX7_byLevel_11 : decode cX7_byLevel 11 = .ok (.if_icmp .ge 104, 3) := by decide +kernel
theorem dX7_byLevel_14 : decode cX7_byLevel 14 = .ok (.iconst 0, 1) := by decide +kernel
theorem dX7_byLevel_15 : decode cX7_byLevel 15 = .ok (.istore 4, 2) := by decide +kernel
theorem dX7_byLevel_17 : decode cX7_byLevel 17 = .ok (.iconst 0, 1) := by decide +kernel
theorem dX7_byLevel_18 : decode cX7_byLevel 18 = .ok (.istore 5, 2) := by decide +kernel
theorem dX7_byLevel_20 : decode cX7_byLevel 20 = .ok (.iload 5, 2) := by decide +kernel
theorem dX7_byLevel_22 : decode cX7_byLevel 22 = .ok (.aload_n 0, 1) := by decide +kernel
theorem dX7_byLevel_23 : decode cX7_byLevel 23 = .ok (.getfield 7, 3) := by decide +kernel
theorem dX7_byLevel_26 : decode cX7_byLevel 26 = .ok (.iconst 0, 1) := by decide +kernel
theorem dX7_byLevel_27 : decode cX7_byLevel 27 = .ok (.iaload, 1) := by decide +kernel
theorem dX7_byLevel_28 : decode cX7_byLevel 28 = .ok (.if_icmp .ge 69, 3) := by decide +kernel
theorem dX7_byLevel_31 : decode cX7_byLevel 31 = .ok (.aload_n 0, 1) := by decide +kernel
theorem dX7_byLevel_32 : decode cX7_byLevel 32 = .ok (.iload 5, 2) := by decide +kernel
theorem dX7_byLevel_34 : decode cX7_byLevel 34 = .ok (.iconst 0, 1) := by decide +kernel
theorem dX7_byLevel_35 : decode cX7_byLevel 35 = .ok (.invokevirtual 37, 3) := by decide +kernel
theorem dX7_byLevel_38 : decode cX7_byLevel 38 = .ok (.aload_n 0, 1) := by decide +kernel
theorem dX7_byLevel_39 : decode cX7_byLevel 39 = .ok (.iload_n 3, 1) := by decide +kernel
theorem dX7_byLevel_40 : decode cX7_byLevel 40 = .ok (.iconst 0, 1) := by decide +kernel
theorem dX7_byLevel_41 : decode cX7_byLevel 41 = .ok (.invokevirtual 37, 3) := by decide +kernel
theorem dX7_byLevel_44 : decode cX7_byLevel 44 = .ok (.if_icmp .lt 25, 3) := by decide +kernel
theorem dX7_byLevel_47 : decode cX7_byLevel 47 = .ok (.aload_n 0, 1) := by decide +kernel
theorem dX7_byLevel_48 : decode cX7_byLevel 48 = .ok (.iload 5, 2) := by decide +kernel
theorem dX7_byLevel_50 : decode cX7_byLevel 50 = .ok (.iconst 0, 1) := by decide +kernel
theorem dX7_byLevel_51 : decode cX7_byLevel 51 = .ok (.invokevirtual 37, 3) := by decide +kernel
theorem dX7_byLevel_54 : decode cX7_byLevel 54 = .ok (.aload_n 0, 1) := by decide +kernel
theorem dX7_byLevel_55 : decode cX7_byLevel 55 = .ok (.iload_n 3, 1) := by decide +kernel
theorem dX7_byLevel_56 : decode cX7_byLevel 56 = .ok (.iconst 0, 1) := by decide +kernel
theorem dX7_byLevel_57 : decode cX7_byLevel 57 = .ok (.invokevirtual 37, 3) := by decide +kernel
theorem dX7_byLevel_60 : decode cX7_byLevel 60 = .ok (.if_icmp .ne 13, 3) := by decide +kernel
theorem dX7_byLevel_63 : decode cX7_byLevel 63 = .ok (.iload 5, 2) := by decide +kernel
theorem dX7_byLevel_65 : decode cX7_byLevel 65 = .ok (.iload_n 3, 1) := by decide +kernel
theorem dX7_byLevel_66 : decode cX7_byLevel 66 = .ok (.if_icmp .ge 7, 3) := by decide +kernel
theorem dX7_byLevel_69 : decode cX7_byLevel 69 = .ok (.iconst 1, 1) := by decide +kernel
theorem dX7_byLevel_70 : decode cX7_byLevel 70 = .ok (.goto 4, 3) := by decide +kernel
theorem dX7_byLevel_73 : decode cX7_byLevel 73 = .ok (.iconst 0, 1) := by decide +kernel
theorem dX7_byLevel_74 : decode cX7_byLevel 74 = .ok (.istore 6, 2) := by decide +kernel
theorem dX7_byLevel_76 : decode cX7_byLevel 76 = .ok (.iload 4, 2) := by decide +kernel
theorem dX7_byLevel_78 : decode cX7_byLevel 78 = .ok (.iload 6, 2) := by decide +kernel
theorem dX7_byLevel_80 : decode cX7_byLevel 80 = .ok (.ifCond .eq 7, 3) := by decide +kernel
theorem dX7_byLevel_83 : decode cX7_byLevel 83 = .ok (.iconst 1, 1) := by decide +kernel
theorem dX7_byLevel_84 : decode cX7_byLevel 84 = .ok (.goto 4, 3) := by decide +kernel
theorem dX7_byLevel_87 : decode cX7_byLevel 87 = .ok (.iconst 0, 1) := by decide +kernel
theorem dX7_byLevel_88 : decode cX7_byLevel 88 = .ok (.iadd, 1) := by decide +kernel
theorem dX7_byLevel_89 : decode cX7_byLevel 89 = .ok (.istore 4, 2) := by decide +kernel
theorem dX7_byLevel_91 : decode cX7_byLevel 91 = .ok (.iinc 5 1, 3) := by decide +kernel
theorem dX7_byLevel_94 : decode cX7_byLevel 94 = .ok (.goto (-74), 3) := by decide +kernel
theorem dX7_byLevel_97 : decode cX7_byLevel 97 = .ok (.iload 4, 2) := by decide +kernel
theorem dX7_byLevel_99 : decode cX7_byLevel 99 = .ok (.iload_n 1, 1) := by decide +kernel
theorem dX7_byLevel_100 : decode cX7_byLevel 100 = .ok (.if_icmp .ne 7, 3) := by decide +kernel
theorem dX7_byLevel_103 : decode cX7_byLevel 103 = .ok (.iload_n 3, 1) := by decide +kernel
theorem dX7_byLevel_104 : decode cX7_byLevel 104 = .ok (.goto 4, 3) := by decide +kernel
theorem dX7_byLevel_107 : decode cX7_byLevel 107 = .ok (.iload_n 2, 1) := by decide +kernel
theorem dX7_byLevel_108 : decode cX7_byLevel 108 = .ok (.istore_n 2, 1) := by decide +kernel
theorem dX7_byLevel_109 : decode cX7_byLevel 109 = .ok (.iinc 3 1, 3) := by decide +kernel
theorem dX7_byLevel_112 : decode cX7_byLevel 112 = .ok (.goto (-108), 3) := by decide +kernel
theorem dX7_byLevel_115 : decode cX7_byLevel 115 = .ok (.iload_n 2, 1) := by decide +kernel
theorem dX7_byLevel_116 : decode cX7_byLevel 116 = .ok (.ireturn, 1) := by decide +kernel
theorem dX7_records_0 : decode cX7_records 0 = .ok (.aload_n 0, 1) := by decide +kernel
theorem dX7_records_1 : decode cX7_records 1 = .ok (.getfield 92, 3) := by decide +kernel
theorem dX7_records_4 : decode cX7_records 4 = .ok (.iconst 5, 1) := by decide +kernel
theorem dX7_records_5 : decode cX7_records 5 = .ok (.if_icmp .ne 44, 3) := by decide +kernel
theorem dX7_records_8 : decode cX7_records 8 = .ok (.iconst 0, 1) := by decide +kernel
theorem dX7_records_9 : decode cX7_records 9 = .ok (.istore_n 1, 1) := by decide +kernel
theorem dX7_records_10 : decode cX7_records 10 = .ok (.iload_n 1, 1) := by decide +kernel
theorem dX7_records_11 : decode cX7_records 11 = .ok (.sipush 2056, 3) := by decide +kernel
theorem dX7_records_14 : decode cX7_records 14 = .ok (.if_icmp .ge 25, 3) := by decide +kernel
theorem dX7_records_17 : decode cX7_records 17 = .ok (.aload_n 0, 1) := by decide +kernel
theorem dX7_records_18 : decode cX7_records 18 = .ok (.getfield 13, 3) := by decide +kernel
theorem dX7_records_21 : decode cX7_records 21 = .ok (.iload_n 1, 1) := by decide +kernel
theorem dX7_records_22 : decode cX7_records 22 = .ok (.aload_n 0, 1) := by decide +kernel
theorem dX7_records_23 : decode cX7_records 23 = .ok (.getfield 13, 3) := by decide +kernel
theorem dX7_records_26 : decode cX7_records 26 = .ok (.sipush 514, 3) := by decide +kernel
theorem dX7_records_29 : decode cX7_records 29 = .ok (.iload_n 1, 1) := by decide +kernel
theorem dX7_records_30 : decode cX7_records 30 = .ok (.iadd, 1) := by decide +kernel
theorem dX7_records_31 : decode cX7_records 31 = .ok (.iaload, 1) := by decide +kernel
theorem dX7_records_32 : decode cX7_records 32 = .ok (.iastore, 1) := by decide +kernel
theorem dX7_records_33 : decode cX7_records 33 = .ok (.iinc 1 1, 3) := by decide +kernel
theorem dX7_records_36 : decode cX7_records 36 = .ok (.goto (-26), 3) := by decide +kernel
theorem dX7_records_39 : decode cX7_records 39 = .ok (.aload_n 0, 1) := by decide +kernel
theorem dX7_records_40 : decode cX7_records 40 = .ok (.dup, 1) := by decide +kernel
theorem dX7_records_41 : decode cX7_records 41 = .ok (.getfield 92, 3) := by decide +kernel
theorem dX7_records_44 : decode cX7_records 44 = .ok (.iconst 1, 1) := by decide +kernel
theorem dX7_records_45 : decode cX7_records 45 = .ok (.isub, 1) := by decide +kernel
theorem dX7_records_46 : decode cX7_records 46 = .ok (.putfield 92, 3) := by decide +kernel
theorem dX7_records_49 : decode cX7_records 49 = .ok (.iconst 0, 1) := by decide +kernel
theorem dX7_records_50 : decode cX7_records 50 = .ok (.istore_n 1, 1) := by decide +kernel
theorem dX7_records_51 : decode cX7_records 51 = .ok (.iload_n 1, 1) := by decide +kernel
theorem dX7_records_52 : decode cX7_records 52 = .ok (.sipush 514, 3) := by decide +kernel
theorem dX7_records_55 : decode cX7_records 55 = .ok (.if_icmp .ge 30, 3) := by decide +kernel
theorem dX7_records_58 : decode cX7_records 58 = .ok (.aload_n 0, 1) := by decide +kernel
theorem dX7_records_59 : decode cX7_records 59 = .ok (.getfield 13, 3) := by decide +kernel
theorem dX7_records_62 : decode cX7_records 62 = .ok (.sipush 514, 3) := by decide +kernel
theorem dX7_records_65 : decode cX7_records 65 = .ok (.aload_n 0, 1) := by decide +kernel
theorem dX7_records_66 : decode cX7_records 66 = .ok (.getfield 92, 3) := by decide +kernel
theorem dX7_records_69 : decode cX7_records 69 = .ok (.imul, 1) := by decide +kernel
theorem dX7_records_70 : decode cX7_records 70 = .ok (.iload_n 1, 1) := by decide +kernel
theorem dX7_records_71 : decode cX7_records 71 = .ok (.iadd, 1) := by decide +kernel
theorem dX7_records_72 : decode cX7_records 72 = .ok (.aload_n 0, 1) := by decide +kernel
theorem dX7_records_73 : decode cX7_records 73 = .ok (.getfield 7, 3) := by decide +kernel
theorem dX7_records_76 : decode cX7_records 76 = .ok (.iload_n 1, 1) := by decide +kernel
theorem dX7_records_77 : decode cX7_records 77 = .ok (.iaload, 1) := by decide +kernel
theorem dX7_records_78 : decode cX7_records 78 = .ok (.iastore, 1) := by decide +kernel
theorem dX7_records_79 : decode cX7_records 79 = .ok (.iinc 1 1, 3) := by decide +kernel
theorem dX7_records_82 : decode cX7_records 82 = .ok (.goto (-31), 3) := by decide +kernel
theorem dX7_records_85 : decode cX7_records 85 = .ok (.aload_n 0, 1) := by decide +kernel
theorem dX7_records_86 : decode cX7_records 86 = .ok (.dup, 1) := by decide +kernel
theorem dX7_records_87 : decode cX7_records 87 = .ok (.getfield 92, 3) := by decide +kernel
theorem dX7_records_90 : decode cX7_records 90 = .ok (.iconst 1, 1) := by decide +kernel
theorem dX7_records_91 : decode cX7_records 91 = .ok (.iadd, 1) := by decide +kernel
theorem dX7_records_92 : decode cX7_records 92 = .ok (.putfield 92, 3) := by decide +kernel
theorem dX7_records_95 : decode cX7_records 95 = .ok (.return_, 1) := by decide +kernel
set_option maxRecDepth 200000 in
theorem ggX7_refusal_X7_isPoint : GoodIn wsX7_refusal wsX7_isPoint := goodIn_r _ [5, 6, 7, 4, 8] rfl (by decide +kernel)
set_option maxRecDepth 200000 in
theorem gX7_refusal_X7_isPoint : GoodIn wsX7_refusal (va_wsS RX7 95 yX7_isPoint wsX7_isPoint) := goodIn_app (goodIn_of _ (by decide +kernel)) ggX7_refusal_X7_isPoint
set_option maxRecDepth 200000 in
theorem ggX7_refusal_X7_in : GoodIn wsX7_refusal wsX7_in := goodIn_r _ [8] rfl (by decide +kernel)
set_option maxRecDepth 200000 in
theorem gX7_refusal_X7_in : GoodIn wsX7_refusal (va_wsS RX7 26 yX7_in wsX7_in) := goodIn_app (goodIn_of _ (by decide +kernel)) ggX7_refusal_X7_in
set_option maxRecDepth 200000 in
theorem ggX7_refusal_X7_owner : GoodIn wsX7_refusal wsX7_owner := goodIn_r _ [12, 1, 13, 14, 15, 4, 16, 17, 18, 19, 6, 7, 8, 20, 21, 22, 92, 93, 94, 95, 96, 97, 98, 99, 100, 101, 102, 103, 104] rfl (by decide +kernel)
set_option maxRecDepth 200000 in
theorem gX7_refusal_X7_owner : GoodIn wsX7_refusal (wsV RX7 54 RX7 yX7_owner wsX7_owner) := goodIn_app (goodIn_of _ (by decide +kernel)) ggX7_refusal_X7_owner
set_option maxRecDepth 200000 in
theorem ggX7_refusal_X7_isLine : GoodIn wsX7_refusal wsX7_isLine := goodIn_r _ [26, 1, 6, 7, 4, 8, 92, 93, 94, 95, 96, 97, 98, 99, 100, 101, 102, 103, 104] rfl (by decide +kernel)
set_option maxRecDepth 200000 in
theorem gX7_refusal_X7_isLine : GoodIn wsX7_refusal (wsV RX7 98 RX7 yX7_isLine wsX7_isLine) := goodIn_app (goodIn_of _ (by decide +kernel)) ggX7_refusal_X7_isLine
set_option maxRecDepth 200000 in
theorem ggX7_refusal_X7_whyNot : GoodIn wsX7_refusal wsX7_whyNot := goodIn_r _ [30, 31, 32, 33, 4, 34, 13, 14, 15, 16, 1, 35, 36, 37, 38, 39, 40, 41, 42, 17, 18, 19, 6, 7, 8, 20, 21, 22, 43, 44, 45, 9, 10, 11, 12, 46, 47, 48, 49, 92, 93, 94, 95, 96, 97, 98, 99, 100, 101, 102, 103, 104] rfl (by decide +kernel)
set_option maxRecDepth 200000 in
theorem gX7_refusal_X7_whyNot : GoodIn wsX7_refusal (wsV RX7 101 RX7 yX7_whyNot wsX7_whyNot) := goodIn_app (goodIn_of _ (by decide +kernel)) ggX7_refusal_X7_whyNot
set_option maxRecDepth 200000 in
theorem ggX7_refusal_X7_of : GoodIn wsX7_refusal wsX7_of := goodIn_r _ [16, 1, 92, 93, 94, 95, 96, 97, 98, 99, 100, 101, 102, 103, 104] rfl (by decide +kernel)
set_option maxRecDepth 200000 in
theorem gX7_refusal_X7_of : GoodIn wsX7_refusal (wsV RX7 37 RX7 yX7_of wsX7_of) := goodIn_app (goodIn_of _ (by decide +kernel)) ggX7_refusal_X7_of
set_option maxRecDepth 200000 in
theorem ggX7_refusal_X7_whyNoLabel : GoodIn wsX7_refusal wsX7_whyNoLabel := goodIn_r _ [53, 1, 54, 55, 56, 4, 57, 58, 59, 60, 61, 13, 14, 15, 16, 31, 32, 33, 34, 35, 36, 37, 38, 39, 40, 41, 42, 17, 18, 19, 6, 7, 8, 20, 21, 22, 62, 63, 64, 65, 66, 67, 68, 69, 70, 71, 72, 73, 74, 75, 76, 77, 78, 79, 80, 81, 82, 83, 84, 85, 86, 87, 92, 93, 94, 95, 96, 97, 98, 99, 100, 101, 102, 103, 104] rfl (by decide +kernel)
set_option maxRecDepth 200000 in
theorem gX7_refusal_X7_whyNoLabel : GoodIn wsX7_refusal (wsV RX7 89 RX7 yX7_whyNoLabel wsX7_whyNoLabel) := goodIn_app (goodIn_of _ (by decide +kernel)) ggX7_refusal_X7_whyNoLabel
set_option maxRecDepth 200000 in
theorem ggX7_refusal_X7_best : GoodIn wsX7_refusal wsX7_best := goodIn_r _ [91, 13, 14, 15, 4, 16, 1, 50, 51, 52, 53, 54, 55, 56, 57, 58, 59, 60, 61, 31, 32, 33, 34, 35, 36, 37, 38, 39, 40, 41, 42, 17, 18, 19, 6, 7, 8, 20, 21, 22, 62, 63, 64, 65, 66, 67, 68, 69, 70, 71, 72, 73, 74, 75, 76, 77, 78, 79, 80, 81, 82, 83, 84, 85, 86, 87, 92, 93, 94, 95, 96, 97, 98, 99, 100, 101, 102, 103, 104] rfl (by decide +kernel)
set_option maxRecDepth 200000 in
theorem gX7_refusal_X7_best : GoodIn wsX7_refusal (wsV RX7 104 RX7 yX7_best wsX7_best) := goodIn_app (goodIn_of _ (by decide +kernel)) ggX7_refusal_X7_best
theorem dX7_refusal_0 : decode cX7_refusal 0 = .ok (.iload_n 1, 1) := by decide +kernel
theorem dX7_refusal_1 : decode cX7_refusal 1 = .ok (.tableswitch 321 98 119 #[278, 321, 321, 321, 321, 305, 321, 321, 321, 321, 209, 321, 103, 321, 321, 321, 321, 154, 321, 250, 321, 195], 103) := by decide +kernel
theorem dX7_refusal_104 : decode cX7_refusal 104 = .ok (.iload_n 3, 1) := by decide +kernel
theorem dX7_refusal_105 : decode cX7_refusal 105 = .ok (.invokestatic 95, 3) := by decide +kernel
theorem dX7_refusal_108 : decode cX7_refusal 108 = .ok (.ifCond .ne 7, 3) := by decide +kernel
theorem dX7_refusal_111 : decode cX7_refusal 111 = .ok (.iconst 1, 1) := by decide +kernel
theorem dX7_refusal_112 : decode cX7_refusal 112 = .ok (.goto 42, 3) := by decide +kernel
theorem dX7_refusal_115 : decode cX7_refusal 115 = .ok (.iload_n 2, 1) := by decide +kernel
theorem dX7_refusal_116 : decode cX7_refusal 116 = .ok (.iconst 0, 1) := by decide +kernel
theorem dX7_refusal_117 : decode cX7_refusal 117 = .ok (.bipush 99, 2) := by decide +kernel
theorem dX7_refusal_119 : decode cX7_refusal 119 = .ok (.invokestatic 26, 3) := by decide +kernel
theorem dX7_refusal_122 : decode cX7_refusal 122 = .ok (.ifCond .ne 7, 3) := by decide +kernel
theorem dX7_refusal_125 : decode cX7_refusal 125 = .ok (.iconst 2, 1) := by decide +kernel
theorem dX7_refusal_126 : decode cX7_refusal 126 = .ok (.goto 28, 3) := by decide +kernel
theorem dX7_refusal_129 : decode cX7_refusal 129 = .ok (.aload_n 0, 1) := by decide +kernel
theorem dX7_refusal_130 : decode cX7_refusal 130 = .ok (.getfield 7, 3) := by decide +kernel
theorem dX7_refusal_133 : decode cX7_refusal 133 = .ok (.iconst 0, 1) := by decide +kernel
theorem dX7_refusal_134 : decode cX7_refusal 134 = .ok (.iaload, 1) := by decide +kernel
theorem dX7_refusal_135 : decode cX7_refusal 135 = .ok (.bipush 8, 2) := by decide +kernel
theorem dX7_refusal_137 : decode cX7_refusal 137 = .ok (.if_icmp .eq 12, 3) := by decide +kernel
theorem dX7_refusal_140 : decode cX7_refusal 140 = .ok (.aload_n 0, 1) := by decide +kernel
theorem dX7_refusal_141 : decode cX7_refusal 141 = .ok (.iload_n 3, 1) := by decide +kernel
theorem dX7_refusal_142 : decode cX7_refusal 142 = .ok (.invokevirtual 54, 3) := by decide +kernel
theorem dX7_refusal_145 : decode cX7_refusal 145 = .ok (.iconst (-1), 1) := by decide +kernel
theorem dX7_refusal_146 : decode cX7_refusal 146 = .ok (.if_icmp .eq 7, 3) := by decide +kernel
theorem dX7_refusal_149 : decode cX7_refusal 149 = .ok (.iconst 3, 1) := by decide +kernel
theorem dX7_refusal_150 : decode cX7_refusal 150 = .ok (.goto 4, 3) := by decide +kernel
theorem dX7_refusal_153 : decode cX7_refusal 153 = .ok (.iconst 0, 1) := by decide +kernel
theorem dX7_refusal_154 : decode cX7_refusal 154 = .ok (.ireturn, 1) := by decide +kernel
theorem dX7_refusal_155 : decode cX7_refusal 155 = .ok (.aload_n 0, 1) := by decide +kernel
theorem dX7_refusal_156 : decode cX7_refusal 156 = .ok (.iload_n 2, 1) := by decide +kernel
theorem dX7_refusal_157 : decode cX7_refusal 157 = .ok (.invokevirtual 98, 3) := by decide +kernel
theorem dX7_refusal_160 : decode cX7_refusal 160 = .ok (.ifCond .ne 7, 3) := by decide +kernel
theorem dX7_refusal_163 : decode cX7_refusal 163 = .ok (.iconst 1, 1) := by decide +kernel
theorem dX7_refusal_164 : decode cX7_refusal 164 = .ok (.goto 31, 3) := by decide +kernel
theorem dX7_refusal_167 : decode cX7_refusal 167 = .ok (.iload_n 3, 1) := by decide +kernel
theorem dX7_refusal_168 : decode cX7_refusal 168 = .ok (.iconst 0, 1) := by decide +kernel
theorem dX7_refusal_169 : decode cX7_refusal 169 = .ok (.bipush 7, 2) := by decide +kernel
theorem dX7_refusal_171 : decode cX7_refusal 171 = .ok (.invokestatic 26, 3) := by decide +kernel
theorem dX7_refusal_174 : decode cX7_refusal 174 = .ok (.ifCond .ne 7, 3) := by decide +kernel
theorem dX7_refusal_177 : decode cX7_refusal 177 = .ok (.iconst 2, 1) := by decide +kernel
theorem dX7_refusal_178 : decode cX7_refusal 178 = .ok (.goto 17, 3) := by decide +kernel
theorem dX7_refusal_181 : decode cX7_refusal 181 = .ok (.aload_n 0, 1) := by decide +kernel
theorem dX7_refusal_182 : decode cX7_refusal 182 = .ok (.iload_n 2, 1) := by decide +kernel
theorem dX7_refusal_183 : decode cX7_refusal 183 = .ok (.iload_n 3, 1) := by decide +kernel
theorem dX7_refusal_184 : decode cX7_refusal 184 = .ok (.invokevirtual 101, 3) := by decide +kernel
theorem dX7_refusal_187 : decode cX7_refusal 187 = .ok (.ifCond .le 7, 3) := by decide +kernel
theorem dX7_refusal_190 : decode cX7_refusal 190 = .ok (.iconst 3, 1) := by decide +kernel
theorem dX7_refusal_191 : decode cX7_refusal 191 = .ok (.goto 4, 3) := by decide +kernel
theorem dX7_refusal_194 : decode cX7_refusal 194 = .ok (.iconst 0, 1) := by decide +kernel
theorem dX7_refusal_195 : decode cX7_refusal 195 = .ok (.ireturn, 1) := by decide +kernel
theorem dX7_refusal_196 : decode cX7_refusal 196 = .ok (.aload_n 0, 1) := by decide +kernel
theorem dX7_refusal_197 : decode cX7_refusal 197 = .ok (.iload_n 2, 1) := by decide +kernel
theorem dX7_refusal_198 : decode cX7_refusal 198 = .ok (.invokevirtual 98, 3) := by decide +kernel
theorem dX7_refusal_201 : decode cX7_refusal 201 = .ok (.ifCond .eq 7, 3) := by decide +kernel
theorem dX7_refusal_204 : decode cX7_refusal 204 = .ok (.iconst 0, 1) := by decide +kernel
theorem dX7_refusal_205 : decode cX7_refusal 205 = .ok (.goto 4, 3) := by decide +kernel
theorem dX7_refusal_208 : decode cX7_refusal 208 = .ok (.iconst 1, 1) := by decide +kernel
theorem dX7_refusal_209 : decode cX7_refusal 209 = .ok (.ireturn, 1) := by decide +kernel
theorem dX7_refusal_210 : decode cX7_refusal 210 = .ok (.aload_n 0, 1) := by decide +kernel
theorem dX7_refusal_211 : decode cX7_refusal 211 = .ok (.iload_n 2, 1) := by decide +kernel
theorem dX7_refusal_212 : decode cX7_refusal 212 = .ok (.invokevirtual 98, 3) := by decide +kernel
theorem dX7_refusal_215 : decode cX7_refusal 215 = .ok (.ifCond .eq 17, 3) := by decide +kernel
theorem dX7_refusal_218 : decode cX7_refusal 218 = .ok (.iload_n 3, 1) := by decide +kernel
theorem dX7_refusal_219 : decode cX7_refusal 219 = .ok (.iconst 0, 1) := by decide +kernel
theorem dX7_refusal_220 : decode cX7_refusal 220 = .ok (.aload_n 0, 1) := by decide +kernel
theorem dX7_refusal_221 : decode cX7_refusal 221 = .ok (.iload_n 2, 1) := by decide +kernel
theorem dX7_refusal_222 : decode cX7_refusal 222 = .ok (.iconst 2, 1) := by decide +kernel
theorem dX7_refusal_223 : decode cX7_refusal 223 = .ok (.invokevirtual 37, 3) := by decide +kernel
theorem dX7_refusal_226 : decode cX7_refusal 226 = .ok (.invokestatic 26, 3) := by decide +kernel
theorem dX7_refusal_229 : decode cX7_refusal 229 = .ok (.ifCond .ne 7, 3) := by decide +kernel
theorem dX7_refusal_232 : decode cX7_refusal 232 = .ok (.iconst 1, 1) := by decide +kernel
theorem dX7_refusal_233 : decode cX7_refusal 233 = .ok (.goto 17, 3) := by decide +kernel
theorem dX7_refusal_236 : decode cX7_refusal 236 = .ok (.aload_n 0, 1) := by decide +kernel
theorem dX7_refusal_237 : decode cX7_refusal 237 = .ok (.iload_n 2, 1) := by decide +kernel
theorem dX7_refusal_238 : decode cX7_refusal 238 = .ok (.iload_n 3, 1) := by decide +kernel
theorem dX7_refusal_239 : decode cX7_refusal 239 = .ok (.invokevirtual 89, 3) := by decide +kernel
theorem dX7_refusal_242 : decode cX7_refusal 242 = .ok (.ifCond .le 7, 3) := by decide +kernel
theorem dX7_refusal_245 : decode cX7_refusal 245 = .ok (.iconst 2, 1) := by decide +kernel
theorem dX7_refusal_246 : decode cX7_refusal 246 = .ok (.goto 4, 3) := by decide +kernel
theorem dX7_refusal_249 : decode cX7_refusal 249 = .ok (.iconst 0, 1) := by decide +kernel
theorem dX7_refusal_250 : decode cX7_refusal 250 = .ok (.ireturn, 1) := by decide +kernel
theorem dX7_refusal_251 : decode cX7_refusal 251 = .ok (.aload_n 0, 1) := by decide +kernel
theorem dX7_refusal_252 : decode cX7_refusal 252 = .ok (.iload_n 2, 1) := by decide +kernel
theorem dX7_refusal_253 : decode cX7_refusal 253 = .ok (.invokevirtual 98, 3) := by decide +kernel
theorem dX7_refusal_256 : decode cX7_refusal 256 = .ok (.ifCond .ne 7, 3) := by decide +kernel
theorem dX7_refusal_259 : decode cX7_refusal 259 = .ok (.iconst 1, 1) := by decide +kernel
theorem dX7_refusal_260 : decode cX7_refusal 260 = .ok (.goto 18, 3) := by decide +kernel
theorem dX7_refusal_263 : decode cX7_refusal 263 = .ok (.aload_n 0, 1) := by decide +kernel
theorem dX7_refusal_264 : decode cX7_refusal 264 = .ok (.iload_n 2, 1) := by decide +kernel
theorem dX7_refusal_265 : decode cX7_refusal 265 = .ok (.iconst 3, 1) := by decide +kernel
theorem dX7_refusal_266 : decode cX7_refusal 266 = .ok (.invokevirtual 37, 3) := by decide +kernel
theorem dX7_refusal_269 : decode cX7_refusal 269 = .ok (.iconst (-1), 1) := by decide +kernel
theorem dX7_refusal_270 : decode cX7_refusal 270 = .ok (.if_icmp .ne 7, 3) := by decide +kernel
theorem dX7_refusal_273 : decode cX7_refusal 273 = .ok (.iconst 2, 1) := by decide +kernel
theorem dX7_refusal_274 : decode cX7_refusal 274 = .ok (.goto 4, 3) := by decide +kernel
theorem dX7_refusal_277 : decode cX7_refusal 277 = .ok (.iconst 0, 1) := by decide +kernel
theorem dX7_refusal_278 : decode cX7_refusal 278 = .ok (.ireturn, 1) := by decide +kernel
theorem dX7_refusal_279 : decode cX7_refusal 279 = .ok (.aload_n 0, 1) := by decide +kernel
theorem dX7_refusal_280 : decode cX7_refusal 280 = .ok (.iload_n 2, 1) := by decide +kernel
theorem dX7_refusal_281 : decode cX7_refusal 281 = .ok (.invokevirtual 98, 3) := by decide +kernel
theorem dX7_refusal_284 : decode cX7_refusal 284 = .ok (.ifCond .ne 7, 3) := by decide +kernel
theorem dX7_refusal_287 : decode cX7_refusal 287 = .ok (.iconst 1, 1) := by decide +kernel
theorem dX7_refusal_288 : decode cX7_refusal 288 = .ok (.goto 17, 3) := by decide +kernel
theorem dX7_refusal_291 : decode cX7_refusal 291 = .ok (.aload_n 0, 1) := by decide +kernel
theorem dX7_refusal_292 : decode cX7_refusal 292 = .ok (.iload_n 2, 1) := by decide +kernel
theorem dX7_refusal_293 : decode cX7_refusal 293 = .ok (.invokevirtual 104, 3) := by decide +kernel
theorem dX7_refusal_296 : decode cX7_refusal 296 = .ok (.iconst (-1), 1) := by decide +kernel
theorem dX7_refusal_297 : decode cX7_refusal 297 = .ok (.if_icmp .ne 7, 3) := by decide +kernel
theorem dX7_refusal_300 : decode cX7_refusal 300 = .ok (.iconst 2, 1) := by decide +kernel
theorem dX7_refusal_301 : decode cX7_refusal 301 = .ok (.goto 4, 3) := by decide +kernel
theorem dX7_refusal_304 : decode cX7_refusal 304 = .ok (.iconst 0, 1) := by decide +kernel
theorem dX7_refusal_305 : decode cX7_refusal 305 = .ok (.ireturn, 1) := by decide +kernel
theorem dX7_refusal_306 : decode cX7_refusal 306 = .ok (.iload_n 2, 1) := by decide +kernel
theorem dX7_refusal_307 : decode cX7_refusal 307 = .ok (.iconst 1, 1) := by decide +kernel
theorem dX7_refusal_308 : decode cX7_refusal 308 = .ok (.bipush 6, 2) := by decide +kernel
theorem dX7_refusal_310 : decode cX7_refusal 310 = .ok (.invokestatic 26, 3) := by decide +kernel
theorem dX7_refusal_313 : decode cX7_refusal 313 = .ok (.ifCond .eq 7, 3) := by decide +kernel
theorem dX7_refusal_316 : decode cX7_refusal 316 = .ok (.iconst 0, 1) := by decide +kernel
theorem dX7_refusal_317 : decode cX7_refusal 317 = .ok (.goto 4, 3) := by decide +kernel
theorem dX7_refusal_320 : decode cX7_refusal 320 = .ok (.iconst 1, 1) := by decide +kernel
theorem dX7_refusal_321 : decode cX7_refusal 321 = .ok (.ireturn, 1) := by decide +kernel
theorem dX7_refusal_322 : decode cX7_refusal 322 = .ok (.iconst 0, 1) := by decide +kernel
theorem dX7_refusal_323 : decode cX7_refusal 323 = .ok (.ireturn, 1) := by decide +kernel
theorem dX7_wipes_0 : decode cX7_wipes 0 = .ok (.iconst 2, 1) := by decide +kernel
theorem dX7_wipes_1 : decode cX7_wipes 1 = .ok (.bipush 64, 2) := by decide +kernel
theorem dX7_wipes_3 : decode cX7_wipes 3 = .ok (.iload_n 1, 1) := by decide +kernel
theorem dX7_wipes_4 : decode cX7_wipes 4 = .ok (.imul, 1) := by decide +kernel
theorem dX7_wipes_5 : decode cX7_wipes 5 = .ok (.iadd, 1) := by decide +kernel
theorem dX7_wipes_6 : decode cX7_wipes 6 = .ok (.istore_n 2, 1) := by decide +kernel
theorem dX7_wipes_7 : decode cX7_wipes 7 = .ok (.iload_n 2, 1) := by decide +kernel
theorem dX7_wipes_8 : decode cX7_wipes 8 = .ok (.sipush 450, 3) := by decide +kernel
theorem dX7_wipes_11 : decode cX7_wipes 11 = .ok (.if_icmp .ge 24, 3) := by decide +kernel
theorem dX7_wipes_14 : decode cX7_wipes 14 = .ok (.aload_n 0, 1) := by decide +kernel
theorem dX7_wipes_15 : decode cX7_wipes 15 = .ok (.getfield 7, 3) := by decide +kernel
theorem dX7_wipes_18 : decode cX7_wipes 18 = .ok (.iload_n 2, 1) := by decide +kernel
theorem dX7_wipes_19 : decode cX7_wipes 19 = .ok (.aload_n 0, 1) := by decide +kernel
theorem dX7_wipes_20 : decode cX7_wipes 20 = .ok (.getfield 7, 3) := by decide +kernel
theorem dX7_wipes_23 : decode cX7_wipes 23 = .ok (.iload_n 2, 1) := by decide +kernel
theorem dX7_wipes_24 : decode cX7_wipes 24 = .ok (.bipush 64, 2) := by decide +kernel
theorem dX7_wipes_26 : decode cX7_wipes 26 = .ok (.iadd, 1) := by decide +kernel
theorem dX7_wipes_27 : decode cX7_wipes 27 = .ok (.iaload, 1) := by decide +kernel
theorem dX7_wipes_28 : decode cX7_wipes 28 = .ok (.iastore, 1) := by decide +kernel
theorem dX7_wipes_29 : decode cX7_wipes 29 = .ok (.iinc 2 1, 3) := by decide +kernel
theorem dX7_wipes_32 : decode cX7_wipes 32 = .ok (.goto (-25), 3) := by decide +kernel
theorem dX7_wipes_35 : decode cX7_wipes 35 = .ok (.sipush 450, 3) := by decide +kernel
theorem dX7_wipes_38 : decode cX7_wipes 38 = .ok (.istore_n 2, 1) := by decide +kernel
theorem dX7_wipes_39 : decode cX7_wipes 39 = .ok (.iload_n 2, 1) := by decide +kernel
theorem dX7_wipes_40 : decode cX7_wipes 40 = .ok (.sipush 514, 3) := by decide +kernel
theorem dX7_wipes_43 : decode cX7_wipes 43 = .ok (.if_icmp .ge 16, 3) := by decide +kernel
theorem dX7_wipes_46 : decode cX7_wipes 46 = .ok (.aload_n 0, 1) := by decide +kernel
theorem dX7_wipes_47 : decode cX7_wipes 47 = .ok (.getfield 7, 3) := by decide +kernel
theorem dX7_wipes_50 : decode cX7_wipes 50 = .ok (.iload_n 2, 1) := by decide +kernel
theorem dX7_wipes_51 : decode cX7_wipes 51 = .ok (.iconst 0, 1) := by decide +kernel
theorem dX7_wipes_52 : decode cX7_wipes 52 = .ok (.iastore, 1) := by decide +kernel
theorem dX7_wipes_53 : decode cX7_wipes 53 = .ok (.iinc 2 1, 3) := by decide +kernel
theorem dX7_wipes_56 : decode cX7_wipes 56 = .ok (.goto (-17), 3) := by decide +kernel
theorem dX7_wipes_59 : decode cX7_wipes 59 = .ok (.aload_n 0, 1) := by decide +kernel
theorem dX7_wipes_60 : decode cX7_wipes 60 = .ok (.getfield 7, 3) := by decide +kernel
theorem dX7_wipes_63 : decode cX7_wipes 63 = .ok (.iconst 0, 1) := by decide +kernel
theorem dX7_wipes_64 : decode cX7_wipes 64 = .ok (.dup2, 1) := by decide +kernel
theorem dX7_wipes_65 : decode cX7_wipes 65 = .ok (.iaload, 1) := by decide +kernel
theorem dX7_wipes_66 : decode cX7_wipes 66 = .ok (.iconst 1, 1) := by decide +kernel
theorem dX7_wipes_67 : decode cX7_wipes 67 = .ok (.isub, 1) := by decide +kernel
theorem dX7_wipes_68 : decode cX7_wipes 68 = .ok (.iastore, 1) := by decide +kernel
theorem dX7_wipes_69 : decode cX7_wipes 69 = .ok (.aload_n 0, 1) := by decide +kernel
theorem dX7_wipes_70 : decode cX7_wipes 70 = .ok (.getfield 7, 3) := by decide +kernel
theorem dX7_wipes_73 : decode cX7_wipes 73 = .ok (.iconst 0, 1) := by decide +kernel
theorem dX7_wipes_74 : decode cX7_wipes 74 = .ok (.iaload, 1) := by decide +kernel
theorem dX7_wipes_75 : decode cX7_wipes 75 = .ok (.ireturn, 1) := by decide +kernel
set_option maxRecDepth 200000 in
theorem ggX7_labelsAll_X7_puts : GoodIn wsX7_labelsAll wsX7_puts := goodIn_r _ [6, 1, 82, 83, 84, 85, 86, 87, 88, 89, 90, 91, 92, 93, 94] rfl (by decide +kernel)
set_option maxRecDepth 200000 in
theorem gX7_labelsAll_X7_puts : GoodIn wsX7_labelsAll (wsV RX7 107 RX7 yX7_puts wsX7_puts) := goodIn_app (goodIn_of _ (by decide +kernel)) ggX7_labelsAll_X7_puts
set_option maxRecDepth 200000 in
theorem ggX7_labelsAll_X7_byLevel : GoodIn wsX7_labelsAll wsX7_byLevel := goodIn_r _ [10, 1, 11, 12, 13, 5, 14, 82, 83, 84, 85, 86, 87, 88, 89, 90, 91, 92, 93, 94] rfl (by decide +kernel)
set_option maxRecDepth 200000 in
theorem gX7_labelsAll_X7_byLevel : GoodIn wsX7_labelsAll (wsV RX7 111 RX7 yX7_byLevel wsX7_byLevel) := goodIn_app (goodIn_of _ (by decide +kernel)) ggX7_labelsAll_X7_byLevel
set_option maxRecDepth 200000 in
theorem ggX7_labelsAll_X7_best : GoodIn wsX7_labelsAll wsX7_best := goodIn_r _ [18, 11, 12, 13, 5, 14, 1, 19, 20, 21, 22, 23, 24, 25, 26, 27, 28, 29, 30, 31, 32, 33, 34, 35, 36, 37, 38, 39, 40, 41, 42, 43, 44, 45, 46, 47, 48, 49, 50, 51, 52, 53, 54, 55, 56, 57, 58, 59, 60, 61, 62, 63, 64, 65, 66, 67, 68, 69, 70, 71, 72, 73, 74, 75, 76, 77, 82, 83, 84, 85, 86, 87, 88, 89, 90, 91, 92, 93, 94] rfl (by decide +kernel)
set_option maxRecDepth 200000 in
theorem gX7_labelsAll_X7_best : GoodIn wsX7_labelsAll (wsV RX7 104 RX7 yX7_best wsX7_best) := goodIn_app (goodIn_of _ (by decide +kernel)) ggX7_labelsAll_X7_best
set_option maxRecDepth 200000 in
theorem ggX7_labelsAll_X7_labelled : GoodIn wsX7_labelsAll wsX7_labelled := goodIn_r _ [81, 1, 11, 12, 13, 5, 14, 82, 83, 84, 85, 86, 87, 88, 89, 90, 91, 92, 93, 94] rfl (by decide +kernel)
set_option maxRecDepth 200000 in
theorem gX7_labelsAll_X7_labelled : GoodIn wsX7_labelsAll (wsV RX7 114 RX7 yX7_labelled wsX7_labelled) := goodIn_app (goodIn_of _ (by decide +kernel)) ggX7_labelsAll_X7_labelled
theorem dX7_labelsAll_0 : decode cX7_labelsAll 0 = .ok (.iconst 0, 1) := by decide +kernel
theorem dX7_labelsAll_1 : decode cX7_labelsAll 1 = .ok (.istore_n 1, 1) := by decide +kernel
theorem dX7_labelsAll_2 : decode cX7_labelsAll 2 = .ok (.iload_n 1, 1) := by decide +kernel
theorem dX7_labelsAll_3 : decode cX7_labelsAll 3 = .ok (.aload_n 0, 1) := by decide +kernel
theorem dX7_labelsAll_4 : decode cX7_labelsAll 4 = .ok (.getfield 7, 3) := by decide +kernel
theorem dX7_labelsAll_7 : decode cX7_labelsAll 7 = .ok (.iconst 0, 1) := by decide +kernel
theorem dX7_labelsAll_8 : decode cX7_labelsAll 8 = .ok (.iaload, 1) := by decide +kernel
theorem dX7_labelsAll_9 : decode cX7_labelsAll 9 = .ok (.if_icmp .ge 16, 3) := by decide +kernel
theorem dX7_labelsAll_12 : decode cX7_labelsAll 12 = .ok (.aload_n 0, 1) := by decide +kernel
theorem dX7_labelsAll_13 : decode cX7_labelsAll 13 = .ok (.iload_n 1, 1) := by decide +kernel
theorem dX7_labelsAll_14 : decode cX7_labelsAll 14 = .ok (.iconst 3, 1) := by decide +kernel
theorem dX7_labelsAll_15 : decode cX7_labelsAll 15 = .ok (.iconst (-1), 1) := by decide +kernel
theorem dX7_labelsAll_16 : decode cX7_labelsAll 16 = .ok (.invokevirtual 107, 3) := by decide +kernel
theorem dX7_labelsAll_19 : decode cX7_labelsAll 19 = .ok (.iinc 1 1, 3) := by decide +kernel
theorem dX7_labelsAll_22 : decode cX7_labelsAll 22 = .ok (.goto (-20), 3) := by decide +kernel
theorem dX7_labelsAll_25 : decode cX7_labelsAll 25 = .ok (.iconst 0, 1) := by decide +kernel
theorem dX7_labelsAll_26 : decode cX7_labelsAll 26 = .ok (.istore_n 1, 1) := by decide +kernel
theorem dX7_labelsAll_27 : decode cX7_labelsAll 27 = .ok (.iload_n 1, 1) := by decide +kernel
theorem dX7_labelsAll_28 : decode cX7_labelsAll 28 = .ok (.aload_n 0, 1) := by decide +kernel
theorem dX7_labelsAll_29 : decode cX7_labelsAll 29 = .ok (.getfield 7, 3) := by decide +kernel
theorem dX7_labelsAll_32 : decode cX7_labelsAll 32 = .ok (.iconst 0, 1) := by decide +kernel
theorem dX7_labelsAll_33 : decode cX7_labelsAll 33 = .ok (.iaload, 1) := by decide +kernel
theorem dX7_labelsAll_34 : decode cX7_labelsAll 34 = .ok (.if_icmp .ge 26, 3) := by decide +kernel
theorem dX7_labelsAll_37 : decode cX7_labelsAll 37 = .ok (.aload_n 0, 1) := by decide +kernel
theorem dX7_labelsAll_38 : decode cX7_labelsAll 38 = .ok (.iload_n 1, 1) := by decide +kernel
theorem dX7_labelsAll_39 : decode cX7_labelsAll 39 = .ok (.invokevirtual 111, 3) := by decide +kernel
theorem dX7_labelsAll_42 : decode cX7_labelsAll 42 = .ok (.istore_n 2, 1) := by decide +kernel
theorem dX7_labelsAll_43 : decode cX7_labelsAll 43 = .ok (.aload_n 0, 1) := by decide +kernel
theorem dX7_labelsAll_44 : decode cX7_labelsAll 44 = .ok (.iload_n 2, 1) := by decide +kernel
theorem dX7_labelsAll_45 : decode cX7_labelsAll 45 = .ok (.iconst 3, 1) := by decide +kernel
theorem dX7_labelsAll_46 : decode cX7_labelsAll 46 = .ok (.aload_n 0, 1) := by decide +kernel
theorem dX7_labelsAll_47 : decode cX7_labelsAll 47 = .ok (.iload_n 2, 1) := by decide +kernel
theorem dX7_labelsAll_48 : decode cX7_labelsAll 48 = .ok (.invokevirtual 104, 3) := by decide +kernel
theorem dX7_labelsAll_51 : decode cX7_labelsAll 51 = .ok (.invokevirtual 107, 3) := by decide +kernel
theorem dX7_labelsAll_54 : decode cX7_labelsAll 54 = .ok (.iinc 1 1, 3) := by decide +kernel
theorem dX7_labelsAll_57 : decode cX7_labelsAll 57 = .ok (.goto (-30), 3) := by decide +kernel
theorem dX7_labelsAll_60 : decode cX7_labelsAll 60 = .ok (.aload_n 0, 1) := by decide +kernel
theorem dX7_labelsAll_61 : decode cX7_labelsAll 61 = .ok (.invokevirtual 114, 3) := by decide +kernel
theorem dX7_labelsAll_64 : decode cX7_labelsAll 64 = .ok (.ireturn, 1) := by decide +kernel
set_option maxRecDepth 200000 in
theorem ggX7_does_X7_puts : GoodIn wsX7_does wsX7_puts := goodIn_r _ [6, 1, 90, 91, 92, 93, 94, 95, 96, 97, 98, 99, 100, 101, 102] rfl (by decide +kernel)
set_option maxRecDepth 200000 in
theorem gX7_does_X7_puts : GoodIn wsX7_does (wsV RX7 107 RX7 yX7_puts wsX7_puts) := goodIn_app (goodIn_of _ (by decide +kernel)) ggX7_does_X7_puts
set_option maxRecDepth 200000 in
theorem ggX7_does_X7_of : GoodIn wsX7_does wsX7_of := goodIn_r _ [10, 1, 90, 91, 92, 93, 94, 95, 96, 97, 98, 99, 100, 101, 102] rfl (by decide +kernel)
set_option maxRecDepth 200000 in
theorem gX7_does_X7_of : GoodIn wsX7_does (wsV RX7 37 RX7 yX7_of wsX7_of) := goodIn_app (goodIn_of _ (by decide +kernel)) ggX7_does_X7_of
set_option maxRecDepth 200000 in
theorem ggX7_does_X7_closes : GoodIn wsX7_does wsX7_closes := goodIn_r _ [14, 7, 8, 9, 5, 10, 1, 15, 16, 17, 18, 19, 20, 21, 22, 23, 24, 25, 26, 27, 28, 29, 30, 31, 90, 91, 92, 93, 94, 95, 96, 97, 98, 99, 100, 101, 102] rfl (by decide +kernel)
set_option maxRecDepth 200000 in
theorem gX7_does_X7_closes : GoodIn wsX7_does (wsV RX7 47 RX7 yX7_closes wsX7_closes) := goodIn_app (goodIn_of _ (by decide +kernel)) ggX7_does_X7_closes
set_option maxRecDepth 200000 in
theorem ggX7_does_X7_wipes : GoodIn wsX7_does wsX7_wipes := goodIn_r _ [35, 1, 90, 91, 92, 93, 94, 95, 96, 97, 98, 99, 100, 101, 102] rfl (by decide +kernel)
set_option maxRecDepth 200000 in
theorem gX7_does_X7_wipes : GoodIn wsX7_does (wsV RX7 118 RX7 yX7_wipes wsX7_wipes) := goodIn_app (goodIn_of _ (by decide +kernel)) ggX7_does_X7_wipes
set_option maxRecDepth 200000 in
theorem ggX7_does_X7_bends : GoodIn wsX7_does wsX7_bends := goodIn_r _ [39, 40, 41, 42, 5, 43, 7, 8, 9, 10, 1, 26, 27, 28, 44, 45, 46, 47, 48, 49, 50, 51, 52, 53, 11, 12, 13, 14, 15, 16, 17, 18, 19, 20, 21, 22, 23, 24, 25, 29, 30, 31, 90, 91, 92, 93, 94, 95, 96, 97, 98, 99, 100, 101, 102] rfl (by decide +kernel)
set_option maxRecDepth 200000 in
theorem gX7_does_X7_bends : GoodIn wsX7_does (wsV RX7 83 RX7 yX7_bends wsX7_bends) := goodIn_app (goodIn_of _ (by decide +kernel)) ggX7_does_X7_bends
set_option maxRecDepth 200000 in
theorem ggX7_does_X7_best : GoodIn wsX7_does wsX7_best := goodIn_r _ [57, 7, 8, 9, 5, 10, 1, 58, 59, 60, 61, 62, 63, 64, 65, 40, 41, 42, 43, 11, 12, 13, 14, 15, 16, 17, 18, 19, 20, 21, 22, 23, 24, 25, 26, 27, 28, 29, 30, 31, 36, 37, 38, 39, 44, 45, 46, 47, 48, 49, 50, 51, 52, 53, 66, 67, 68, 69, 70, 71, 72, 73, 74, 75, 76, 77, 90, 91, 92, 93, 94, 95, 96, 97, 98, 99, 100, 101, 102] rfl (by decide +kernel)
set_option maxRecDepth 200000 in
theorem gX7_does_X7_best : GoodIn wsX7_does (wsV RX7 104 RX7 yX7_best wsX7_best) := goodIn_app (goodIn_of _ (by decide +kernel)) ggX7_does_X7_best
set_option maxRecDepth 200000 in
theorem ggX7_does_X7_labelsAll : GoodIn wsX7_does wsX7_labelsAll := goodIn_r _ [81, 1, 2, 3, 4, 5, 6, 82, 83, 84, 85, 7, 8, 9, 10, 54, 55, 56, 57, 58, 59, 60, 61, 62, 63, 64, 65, 40, 41, 42, 43, 11, 12, 13, 14, 15, 16, 17, 18, 19, 20, 21, 22, 23, 24, 25, 26, 27, 28, 29, 30, 31, 36, 37, 38, 39, 44, 45, 46, 47, 48, 49, 50, 51, 52, 53, 66, 67, 68, 69, 70, 71, 72, 73, 74, 75, 76, 77, 86, 87, 88, 89, 90, 91, 92, 93, 94, 95, 96, 97, 98, 99, 100, 101, 102] rfl (by decide +kernel)
set_option maxRecDepth 200000 in
theorem gX7_does_X7_labelsAll : GoodIn wsX7_does (wsV RX7 121 RX7 yX7_labelsAll wsX7_labelsAll) := goodIn_app (goodIn_of _ (by decide +kernel)) ggX7_does_X7_labelsAll
theorem dX7_does_0 : decode cX7_does 0 = .ok (.iconst 0, 1) := by decide +kernel
theorem dX7_does_1 : decode cX7_does 1 = .ok (.istore 4, 2) := by decide +kernel
theorem dX7_does_3 : decode cX7_does 3 = .ok (.iload_n 1, 1) := by decide +kernel
theorem dX7_does_4 : decode cX7_does 4 = .ok (.tableswitch 264 97 119 #[259, 241, 264, 264, 264, 264, 264, 264, 264, 264, 264, 209, 264, 108, 264, 264, 264, 264, 161, 264, 223, 264, 203], 108) := by decide +kernel
theorem dX7_does_112 : decode cX7_does 112 = .ok (.aload_n 0, 1) := by decide +kernel
theorem dX7_does_113 : decode cX7_does 113 = .ok (.getfield 7, 3) := by decide +kernel
theorem dX7_does_116 : decode cX7_does 116 = .ok (.iconst 0, 1) := by decide +kernel
theorem dX7_does_117 : decode cX7_does 117 = .ok (.iaload, 1) := by decide +kernel
theorem dX7_does_118 : decode cX7_does 118 = .ok (.istore 5, 2) := by decide +kernel
theorem dX7_does_120 : decode cX7_does 120 = .ok (.aload_n 0, 1) := by decide +kernel
theorem dX7_does_121 : decode cX7_does 121 = .ok (.getfield 7, 3) := by decide +kernel
theorem dX7_does_124 : decode cX7_does 124 = .ok (.iconst 0, 1) := by decide +kernel
theorem dX7_does_125 : decode cX7_does 125 = .ok (.dup2, 1) := by decide +kernel
theorem dX7_does_126 : decode cX7_does 126 = .ok (.iaload, 1) := by decide +kernel
theorem dX7_does_127 : decode cX7_does 127 = .ok (.iconst 1, 1) := by decide +kernel
theorem dX7_does_128 : decode cX7_does 128 = .ok (.iadd, 1) := by decide +kernel
theorem dX7_does_129 : decode cX7_does 129 = .ok (.iastore, 1) := by decide +kernel
theorem dX7_does_130 : decode cX7_does 130 = .ok (.aload_n 0, 1) := by decide +kernel
theorem dX7_does_131 : decode cX7_does 131 = .ok (.iload 5, 2) := by decide +kernel
theorem dX7_does_133 : decode cX7_does 133 = .ok (.iconst 0, 1) := by decide +kernel
theorem dX7_does_134 : decode cX7_does 134 = .ok (.iload_n 2, 1) := by decide +kernel
theorem dX7_does_135 : decode cX7_does 135 = .ok (.invokevirtual 107, 3) := by decide +kernel
theorem dX7_does_138 : decode cX7_does 138 = .ok (.aload_n 0, 1) := by decide +kernel
theorem dX7_does_139 : decode cX7_does 139 = .ok (.iload 5, 2) := by decide +kernel
theorem dX7_does_141 : decode cX7_does 141 = .ok (.iconst 1, 1) := by decide +kernel
theorem dX7_does_142 : decode cX7_does 142 = .ok (.iload_n 3, 1) := by decide +kernel
theorem dX7_does_143 : decode cX7_does 143 = .ok (.invokevirtual 107, 3) := by decide +kernel
theorem dX7_does_146 : decode cX7_does 146 = .ok (.aload_n 0, 1) := by decide +kernel
theorem dX7_does_147 : decode cX7_does 147 = .ok (.iload 5, 2) := by decide +kernel
theorem dX7_does_149 : decode cX7_does 149 = .ok (.iconst 2, 1) := by decide +kernel
theorem dX7_does_150 : decode cX7_does 150 = .ok (.iconst 0, 1) := by decide +kernel
theorem dX7_does_151 : decode cX7_does 151 = .ok (.invokevirtual 107, 3) := by decide +kernel
theorem dX7_does_154 : decode cX7_does 154 = .ok (.aload_n 0, 1) := by decide +kernel
theorem dX7_does_155 : decode cX7_does 155 = .ok (.iload 5, 2) := by decide +kernel
theorem dX7_does_157 : decode cX7_does 157 = .ok (.iconst 3, 1) := by decide +kernel
theorem dX7_does_158 : decode cX7_does 158 = .ok (.iconst (-1), 1) := by decide +kernel
theorem dX7_does_159 : decode cX7_does 159 = .ok (.invokevirtual 107, 3) := by decide +kernel
theorem dX7_does_162 : decode cX7_does 162 = .ok (.iload 5, 2) := by decide +kernel
theorem dX7_does_164 : decode cX7_does 164 = .ok (.ireturn, 1) := by decide +kernel
theorem dX7_does_165 : decode cX7_does 165 = .ok (.aload_n 0, 1) := by decide +kernel
theorem dX7_does_166 : decode cX7_does 166 = .ok (.iload_n 2, 1) := by decide +kernel
theorem dX7_does_167 : decode cX7_does 167 = .ok (.iconst 4, 1) := by decide +kernel
theorem dX7_does_168 : decode cX7_does 168 = .ok (.aload_n 0, 1) := by decide +kernel
theorem dX7_does_169 : decode cX7_does 169 = .ok (.iload_n 2, 1) := by decide +kernel
theorem dX7_does_170 : decode cX7_does 170 = .ok (.iconst 2, 1) := by decide +kernel
theorem dX7_does_171 : decode cX7_does 171 = .ok (.invokevirtual 37, 3) := by decide +kernel
theorem dX7_does_174 : decode cX7_does 174 = .ok (.iadd, 1) := by decide +kernel
theorem dX7_does_175 : decode cX7_does 175 = .ok (.iload_n 3, 1) := by decide +kernel
theorem dX7_does_176 : decode cX7_does 176 = .ok (.invokevirtual 107, 3) := by decide +kernel
theorem dX7_does_179 : decode cX7_does 179 = .ok (.aload_n 0, 1) := by decide +kernel
theorem dX7_does_180 : decode cX7_does 180 = .ok (.iload_n 2, 1) := by decide +kernel
theorem dX7_does_181 : decode cX7_does 181 = .ok (.iconst 2, 1) := by decide +kernel
theorem dX7_does_182 : decode cX7_does 182 = .ok (.aload_n 0, 1) := by decide +kernel
theorem dX7_does_183 : decode cX7_does 183 = .ok (.iload_n 2, 1) := by decide +kernel
theorem dX7_does_184 : decode cX7_does 184 = .ok (.iconst 2, 1) := by decide +kernel
theorem dX7_does_185 : decode cX7_does 185 = .ok (.invokevirtual 37, 3) := by decide +kernel
theorem dX7_does_188 : decode cX7_does 188 = .ok (.iconst 1, 1) := by decide +kernel
theorem dX7_does_189 : decode cX7_does 189 = .ok (.iadd, 1) := by decide +kernel
theorem dX7_does_190 : decode cX7_does 190 = .ok (.invokevirtual 107, 3) := by decide +kernel
theorem dX7_does_193 : decode cX7_does 193 = .ok (.aload_n 0, 1) := by decide +kernel
theorem dX7_does_194 : decode cX7_does 194 = .ok (.iload_n 2, 1) := by decide +kernel
theorem dX7_does_195 : decode cX7_does 195 = .ok (.invokevirtual 47, 3) := by decide +kernel
theorem dX7_does_198 : decode cX7_does 198 = .ok (.ifCond .eq 7, 3) := by decide +kernel
theorem dX7_does_201 : decode cX7_does 201 = .ok (.iconst 1, 1) := by decide +kernel
theorem dX7_does_202 : decode cX7_does 202 = .ok (.goto 4, 3) := by decide +kernel
theorem dX7_does_205 : decode cX7_does 205 = .ok (.iconst 0, 1) := by decide +kernel
theorem dX7_does_206 : decode cX7_does 206 = .ok (.ireturn, 1) := by decide +kernel
theorem dX7_does_207 : decode cX7_does 207 = .ok (.aload_n 0, 1) := by decide +kernel
theorem dX7_does_208 : decode cX7_does 208 = .ok (.iload_n 2, 1) := by decide +kernel
theorem dX7_does_209 : decode cX7_does 209 = .ok (.invokevirtual 118, 3) := by decide +kernel
theorem dX7_does_212 : decode cX7_does 212 = .ok (.ireturn, 1) := by decide +kernel
theorem dX7_does_213 : decode cX7_does 213 = .ok (.aload_n 0, 1) := by decide +kernel
theorem dX7_does_214 : decode cX7_does 214 = .ok (.iload_n 2, 1) := by decide +kernel
theorem dX7_does_215 : decode cX7_does 215 = .ok (.iconst 3, 1) := by decide +kernel
theorem dX7_does_216 : decode cX7_does 216 = .ok (.iload_n 3, 1) := by decide +kernel
theorem dX7_does_217 : decode cX7_does 217 = .ok (.invokevirtual 107, 3) := by decide +kernel
theorem dX7_does_220 : decode cX7_does 220 = .ok (.aload_n 0, 1) := by decide +kernel
theorem dX7_does_221 : decode cX7_does 221 = .ok (.iload_n 2, 1) := by decide +kernel
theorem dX7_does_222 : decode cX7_does 222 = .ok (.iload_n 3, 1) := by decide +kernel
theorem dX7_does_223 : decode cX7_does 223 = .ok (.invokevirtual 83, 3) := by decide +kernel
theorem dX7_does_226 : decode cX7_does 226 = .ok (.ireturn, 1) := by decide +kernel
theorem dX7_does_227 : decode cX7_does 227 = .ok (.aload_n 0, 1) := by decide +kernel
theorem dX7_does_228 : decode cX7_does 228 = .ok (.iload_n 2, 1) := by decide +kernel
theorem dX7_does_229 : decode cX7_does 229 = .ok (.iconst 3, 1) := by decide +kernel
theorem dX7_does_230 : decode cX7_does 230 = .ok (.invokevirtual 37, 3) := by decide +kernel
theorem dX7_does_233 : decode cX7_does 233 = .ok (.istore 4, 2) := by decide +kernel
theorem dX7_does_235 : decode cX7_does 235 = .ok (.aload_n 0, 1) := by decide +kernel
theorem dX7_does_236 : decode cX7_does 236 = .ok (.iload_n 2, 1) := by decide +kernel
theorem dX7_does_237 : decode cX7_does 237 = .ok (.iconst 3, 1) := by decide +kernel
theorem dX7_does_238 : decode cX7_does 238 = .ok (.iconst (-1), 1) := by decide +kernel
theorem dX7_does_239 : decode cX7_does 239 = .ok (.invokevirtual 107, 3) := by decide +kernel
theorem dX7_does_242 : decode cX7_does 242 = .ok (.iload 4, 2) := by decide +kernel
theorem dX7_does_244 : decode cX7_does 244 = .ok (.ireturn, 1) := by decide +kernel
theorem dX7_does_245 : decode cX7_does 245 = .ok (.aload_n 0, 1) := by decide +kernel
theorem dX7_does_246 : decode cX7_does 246 = .ok (.iload_n 2, 1) := by decide +kernel
theorem dX7_does_247 : decode cX7_does 247 = .ok (.iconst 3, 1) := by decide +kernel
theorem dX7_does_248 : decode cX7_does 248 = .ok (.aload_n 0, 1) := by decide +kernel
theorem dX7_does_249 : decode cX7_does 249 = .ok (.iload_n 2, 1) := by decide +kernel
theorem dX7_does_250 : decode cX7_does 250 = .ok (.invokevirtual 104, 3) := by decide +kernel
theorem dX7_does_253 : decode cX7_does 253 = .ok (.invokevirtual 107, 3) := by decide +kernel
theorem dX7_does_256 : decode cX7_does 256 = .ok (.aload_n 0, 1) := by decide +kernel
theorem dX7_does_257 : decode cX7_does 257 = .ok (.iload_n 2, 1) := by decide +kernel
theorem dX7_does_258 : decode cX7_does 258 = .ok (.iconst 3, 1) := by decide +kernel
theorem dX7_does_259 : decode cX7_does 259 = .ok (.invokevirtual 37, 3) := by decide +kernel
theorem dX7_does_262 : decode cX7_does 262 = .ok (.ireturn, 1) := by decide +kernel
theorem dX7_does_263 : decode cX7_does 263 = .ok (.aload_n 0, 1) := by decide +kernel
theorem dX7_does_264 : decode cX7_does 264 = .ok (.invokevirtual 121, 3) := by decide +kernel
theorem dX7_does_267 : decode cX7_does 267 = .ok (.ireturn, 1) := by decide +kernel
theorem dX7_does_268 : decode cX7_does 268 = .ok (.aload_n 0, 1) := by decide +kernel
theorem dX7_does_269 : decode cX7_does 269 = .ok (.getfield 7, 3) := by decide +kernel
theorem dX7_does_272 : decode cX7_does 272 = .ok (.iconst 1, 1) := by decide +kernel
theorem dX7_does_273 : decode cX7_does 273 = .ok (.iaload, 1) := by decide +kernel
theorem dX7_does_274 : decode cX7_does 274 = .ok (.istore 4, 2) := by decide +kernel
theorem dX7_does_276 : decode cX7_does 276 = .ok (.aload_n 0, 1) := by decide +kernel
theorem dX7_does_277 : decode cX7_does 277 = .ok (.getfield 7, 3) := by decide +kernel
theorem dX7_does_280 : decode cX7_does 280 = .ok (.iconst 1, 1) := by decide +kernel
theorem dX7_does_281 : decode cX7_does 281 = .ok (.iload_n 2, 1) := by decide +kernel
theorem dX7_does_282 : decode cX7_does 282 = .ok (.iastore, 1) := by decide +kernel
theorem dX7_does_283 : decode cX7_does 283 = .ok (.iload 4, 2) := by decide +kernel
theorem dX7_does_285 : decode cX7_does 285 = .ok (.ireturn, 1) := by decide +kernel
set_option maxRecDepth 200000 in
theorem ggX7_acts_X7_refusal : GoodIn wsX7_acts wsX7_refusal := goodIn_r _ [6, 7, 8, 9, 5, 10, 11, 12, 13, 14, 15, 16, 17, 18, 19, 20, 21, 22, 23, 24, 25, 26, 27, 28, 29, 30, 31, 32, 33, 34, 35, 36, 37, 38, 39, 40, 41, 42, 43, 44, 45, 46, 47, 48, 49, 50, 51, 52, 53, 54, 55, 56, 57, 58, 59, 60, 61, 62, 63, 64, 65, 66, 67, 68, 69, 70, 71, 72, 73, 74, 75, 76, 77, 78, 79, 80, 81, 82, 83, 84, 85, 86, 87, 88, 89, 90, 91, 92, 93, 94, 95, 96, 127, 128, 129, 130, 131, 132, 133, 134, 135, 136, 137, 138, 139] rfl (by decide +kernel)
set_option maxRecDepth 200000 in
theorem gX7_acts_X7_refusal : GoodIn wsX7_acts (wsV RX7 124 RX7 yX7_refusal wsX7_refusal) := goodIn_app (goodIn_of _ (by decide +kernel)) ggX7_acts_X7_refusal
set_option maxRecDepth 200000 in
theorem ggX7_acts_X7_records : GoodIn wsX7_acts wsX7_records := goodIn_r _ [100, 101, 102, 7, 127, 128, 129, 130, 131, 132, 133, 134, 135, 136, 137, 138, 139] rfl (by decide +kernel)
set_option maxRecDepth 200000 in
theorem gX7_acts_X7_records : GoodIn wsX7_acts (wsV RX7 128 RX7 yX7_records wsX7_records) := goodIn_app (goodIn_of _ (by decide +kernel)) ggX7_acts_X7_records
set_option maxRecDepth 200000 in
theorem ggX7_acts_X7_does : GoodIn wsX7_acts wsX7_does := goodIn_r _ [106, 7, 107, 108, 109, 5, 110, 18, 19, 20, 21, 36, 37, 38, 39, 40, 41, 42, 43, 44, 45, 46, 47, 22, 23, 24, 11, 12, 13, 25, 26, 27, 111, 112, 113, 114, 67, 68, 69, 70, 63, 64, 65, 66, 71, 72, 73, 74, 75, 76, 77, 78, 79, 80, 93, 94, 95, 96, 55, 56, 57, 58, 59, 60, 61, 62, 81, 82, 83, 84, 85, 86, 87, 88, 89, 90, 91, 92, 115, 116, 117, 118, 119, 120, 121, 122, 123, 124, 125, 126, 127, 128, 129, 130, 131, 132, 133, 134, 135, 136, 137, 138, 139] rfl (by decide +kernel)
set_option maxRecDepth 200000 in
theorem gX7_acts_X7_does : GoodIn wsX7_acts (wsV RX7 131 RX7 yX7_does wsX7_does) := goodIn_app (goodIn_of _ (by decide +kernel)) ggX7_acts_X7_does
theorem dX7_acts_0 : decode cX7_acts 0 = .ok (.aload_n 0, 1) := by decide +kernel
theorem dX7_acts_1 : decode cX7_acts 1 = .ok (.aload_n 0, 1) := by decide +kernel
theorem dX7_acts_2 : decode cX7_acts 2 = .ok (.iload_n 1, 1) := by decide +kernel
theorem dX7_acts_3 : decode cX7_acts 3 = .ok (.iload_n 2, 1) := by decide +kernel
theorem dX7_acts_4 : decode cX7_acts 4 = .ok (.iload_n 3, 1) := by decide +kernel
theorem dX7_acts_5 : decode cX7_acts 5 = .ok (.invokevirtual 124, 3) := by decide +kernel
theorem dX7_acts_8 : decode cX7_acts 8 = .ok (.putfield 22, 3) := by decide +kernel
theorem dX7_acts_11 : decode cX7_acts 11 = .ok (.aload_n 0, 1) := by decide +kernel
theorem dX7_acts_12 : decode cX7_acts 12 = .ok (.getfield 22, 3) := by decide +kernel
theorem dX7_acts_15 : decode cX7_acts 15 = .ok (.ifCond .le 5, 3) := by decide +kernel
theorem dX7_acts_18 : decode cX7_acts 18 = .ok (.iconst 0, 1) := by decide +kernel
theorem dX7_acts_19 : decode cX7_acts 19 = .ok (.ireturn, 1) := by decide +kernel
theorem dX7_acts_20 : decode cX7_acts 20 = .ok (.aload_n 0, 1) := by decide +kernel
theorem dX7_acts_21 : decode cX7_acts 21 = .ok (.invokevirtual 128, 3) := by decide +kernel
theorem dX7_acts_24 : decode cX7_acts 24 = .ok (.aload_n 0, 1) := by decide +kernel
theorem dX7_acts_25 : decode cX7_acts 25 = .ok (.iload_n 1, 1) := by decide +kernel
theorem dX7_acts_26 : decode cX7_acts 26 = .ok (.iload_n 2, 1) := by decide +kernel
theorem dX7_acts_27 : decode cX7_acts 27 = .ok (.iload_n 3, 1) := by decide +kernel
theorem dX7_acts_28 : decode cX7_acts 28 = .ok (.invokevirtual 131, 3) := by decide +kernel
theorem dX7_acts_31 : decode cX7_acts 31 = .ok (.ireturn, 1) := by decide +kernel
set_option maxRecDepth 200000 in
theorem ggX7_begin_X7_acts : GoodIn wsX7_begin wsX7_acts := goodIn_r _ [5, 6, 7, 8, 9, 4, 10, 11, 12, 13, 14, 15, 16, 17, 18, 19, 20, 21, 22, 23, 24, 25, 26, 27, 28, 29, 30, 31, 32, 33, 34, 35, 36, 37, 38, 39, 40, 41, 42, 43, 44, 45, 46, 47, 48, 49, 50, 51, 52, 53, 54, 55, 56, 57, 58, 59, 60, 61, 62, 63, 64, 65, 66, 67, 68, 69, 70, 71, 72, 73, 74, 75, 76, 77, 78, 79, 80, 81, 82, 83, 84, 85, 86, 87, 88, 89, 90, 91, 92, 93, 94, 95, 96, 97, 98, 99, 100, 101, 102, 103, 104, 105, 106, 107, 108, 109, 110, 111, 112, 113, 114, 115, 116, 117, 118, 119, 120, 121, 122, 123, 124, 125, 126, 127, 128, 129, 130, 131, 132, 133, 134, 135, 136, 137, 138, 139, 140, 141, 142, 143] rfl (by decide +kernel)
set_option maxRecDepth 200000 in
theorem gX7_begin_X7_acts : GoodIn wsX7_begin (wsV RX7 134 RX7 yX7_acts wsX7_acts) := goodIn_app (goodIn_of _ (by decide +kernel)) ggX7_begin_X7_acts
theorem dX7_begin_0 : decode cX7_begin 0 = .ok (.aload_n 0, 1) := by decide +kernel
theorem dX7_begin_1 : decode cX7_begin 1 = .ok (.bipush 110, 2) := by decide +kernel
theorem dX7_begin_3 : decode cX7_begin 3 = .ok (.iload_n 1, 1) := by decide +kernel
theorem dX7_begin_4 : decode cX7_begin 4 = .ok (.iload_n 2, 1) := by decide +kernel
theorem dX7_begin_5 : decode cX7_begin 5 = .ok (.invokevirtual 134, 3) := by decide +kernel
theorem dX7_begin_8 : decode cX7_begin 8 = .ok (.ireturn, 1) := by decide +kernel
set_option maxRecDepth 200000 in
theorem ggX7_step_X7_acts : GoodIn wsX7_step wsX7_acts := goodIn_r _ [5, 6, 7, 8, 9, 4, 10, 11, 12, 13, 14, 15, 16, 17, 18, 19, 20, 21, 22, 23, 24, 25, 26, 27, 28, 29, 30, 31, 32, 33, 34, 35, 36, 37, 38, 39, 40, 41, 42, 43, 44, 45, 46, 47, 48, 49, 50, 51, 52, 53, 54, 55, 56, 57, 58, 59, 60, 61, 62, 63, 64, 65, 66, 67, 68, 69, 70, 71, 72, 73, 74, 75, 76, 77, 78, 79, 80, 81, 82, 83, 84, 85, 86, 87, 88, 89, 90, 91, 92, 93, 94, 95, 96, 97, 98, 99, 100, 101, 102, 103, 104, 105, 106, 107, 108, 109, 110, 111, 112, 113, 114, 115, 116, 117, 118, 119, 120, 121, 122, 123, 124, 125, 126, 127, 128, 129, 130, 131, 132, 133, 134, 135, 136, 137, 138, 139, 140, 141, 142, 143] rfl (by decide +kernel)
set_option maxRecDepth 200000 in
theorem gX7_step_X7_acts : GoodIn wsX7_step (wsV RX7 134 RX7 yX7_acts wsX7_acts) := goodIn_app (goodIn_of _ (by decide +kernel)) ggX7_step_X7_acts
theorem dX7_step_0 : decode cX7_step 0 = .ok (.aload_n 0, 1) := by decide +kernel
theorem dX7_step_1 : decode cX7_step 1 = .ok (.bipush 115, 2) := by decide +kernel
theorem dX7_step_3 : decode cX7_step 3 = .ok (.iload_n 1, 1) := by decide +kernel
theorem dX7_step_4 : decode cX7_step 4 = .ok (.iload_n 2, 1) := by decide +kernel
theorem dX7_step_5 : decode cX7_step 5 = .ok (.invokevirtual 134, 3) := by decide +kernel
theorem dX7_step_8 : decode cX7_step 8 = .ok (.iconst 1, 1) := by decide +kernel
theorem dX7_step_9 : decode cX7_step 9 = .ok (.if_icmp .ne 7, 3) := by decide +kernel
theorem dX7_step_12 : decode cX7_step 12 = .ok (.iconst 1, 1) := by decide +kernel
theorem dX7_step_13 : decode cX7_step 13 = .ok (.goto 4, 3) := by decide +kernel
theorem dX7_step_16 : decode cX7_step 16 = .ok (.iconst 0, 1) := by decide +kernel
theorem dX7_step_17 : decode cX7_step 17 = .ok (.ireturn, 1) := by decide +kernel
set_option maxRecDepth 200000 in
theorem ggX7_wipe_X7_acts : GoodIn wsX7_wipe wsX7_acts := goodIn_r _ [5, 6, 7, 8, 9, 4, 10, 11, 12, 13, 14, 15, 16, 17, 18, 19, 20, 21, 22, 23, 24, 25, 26, 27, 28, 29, 30, 31, 32, 33, 34, 35, 36, 37, 38, 39, 40, 41, 42, 43, 44, 45, 46, 47, 48, 49, 50, 51, 52, 53, 54, 55, 56, 57, 58, 59, 60, 61, 62, 63, 64, 65, 66, 67, 68, 69, 70, 71, 72, 73, 74, 75, 76, 77, 78, 79, 80, 81, 82, 83, 84, 85, 86, 87, 88, 89, 90, 91, 92, 93, 94, 95, 96, 97, 98, 99, 100, 101, 102, 103, 104, 105, 106, 107, 108, 109, 110, 111, 112, 113, 114, 115, 116, 117, 118, 119, 120, 121, 122, 123, 124, 125, 126, 127, 128, 129, 130, 131, 132, 133, 134, 135, 136, 137, 138, 139, 140, 141, 142, 143] rfl (by decide +kernel)
set_option maxRecDepth 200000 in
theorem gX7_wipe_X7_acts : GoodIn wsX7_wipe (wsV RX7 134 RX7 yX7_acts wsX7_acts) := goodIn_app (goodIn_of _ (by decide +kernel)) ggX7_wipe_X7_acts
theorem dX7_wipe_0 : decode cX7_wipe 0 = .ok (.aload_n 0, 1) := by decide +kernel
theorem dX7_wipe_1 : decode cX7_wipe 1 = .ok (.bipush 119, 2) := by decide +kernel
theorem dX7_wipe_3 : decode cX7_wipe 3 = .ok (.iload_n 1, 1) := by decide +kernel
theorem dX7_wipe_4 : decode cX7_wipe 4 = .ok (.iconst 0, 1) := by decide +kernel
theorem dX7_wipe_5 : decode cX7_wipe 5 = .ok (.invokevirtual 134, 3) := by decide +kernel
theorem dX7_wipe_8 : decode cX7_wipe 8 = .ok (.ireturn, 1) := by decide +kernel
set_option maxRecDepth 200000 in
theorem ggX7_setLevel_X7_isLine : GoodIn wsX7_setLevel wsX7_isLine := goodIn_r _ [6, 7, 8, 9, 5, 10, 25, 26, 27, 28, 29, 30, 31, 32, 33, 34, 35, 36, 37] rfl (by decide +kernel)
set_option maxRecDepth 200000 in
theorem gX7_setLevel_X7_isLine : GoodIn wsX7_setLevel (wsV RX7 98 RX7 yX7_isLine wsX7_isLine) := goodIn_app (goodIn_of _ (by decide +kernel)) ggX7_setLevel_X7_isLine
set_option maxRecDepth 200000 in
theorem ggX7_setLevel_X7_in : GoodIn wsX7_setLevel wsX7_in := goodIn_r _ [10] rfl (by decide +kernel)
set_option maxRecDepth 200000 in
theorem gX7_setLevel_X7_in : GoodIn wsX7_setLevel (va_wsS RX7 26 yX7_in wsX7_in) := goodIn_app (goodIn_of _ (by decide +kernel)) ggX7_setLevel_X7_in
set_option maxRecDepth 200000 in
theorem ggX7_setLevel_X7_records : GoodIn wsX7_setLevel wsX7_records := goodIn_r _ [14, 15, 16, 7, 25, 26, 27, 28, 29, 30, 31, 32, 33, 34, 35, 36, 37] rfl (by decide +kernel)
set_option maxRecDepth 200000 in
theorem gX7_setLevel_X7_records : GoodIn wsX7_setLevel (wsV RX7 128 RX7 yX7_records wsX7_records) := goodIn_app (goodIn_of _ (by decide +kernel)) ggX7_setLevel_X7_records
set_option maxRecDepth 200000 in
theorem ggX7_setLevel_X7_of : GoodIn wsX7_setLevel wsX7_of := goodIn_r _ [20, 7, 25, 26, 27, 28, 29, 30, 31, 32, 33, 34, 35, 36, 37] rfl (by decide +kernel)
set_option maxRecDepth 200000 in
theorem gX7_setLevel_X7_of : GoodIn wsX7_setLevel (wsV RX7 37 RX7 yX7_of wsX7_of) := goodIn_app (goodIn_of _ (by decide +kernel)) ggX7_setLevel_X7_of
set_option maxRecDepth 200000 in
theorem ggX7_setLevel_X7_puts : GoodIn wsX7_setLevel wsX7_puts := goodIn_r _ [24, 7, 25, 26, 27, 28, 29, 30, 31, 32, 33, 34, 35, 36, 37] rfl (by decide +kernel)
set_option maxRecDepth 200000 in
theorem gX7_setLevel_X7_puts : GoodIn wsX7_setLevel (wsV RX7 107 RX7 yX7_puts wsX7_puts) := goodIn_app (goodIn_of _ (by decide +kernel)) ggX7_setLevel_X7_puts
theorem dX7_setLevel_0 : decode cX7_setLevel 0 = .ok (.aload_n 0, 1) := by decide +kernel
theorem dX7_setLevel_1 : decode cX7_setLevel 1 = .ok (.aload_n 0, 1) := by decide +kernel
theorem dX7_setLevel_2 : decode cX7_setLevel 2 = .ok (.iload_n 1, 1) := by decide +kernel
theorem dX7_setLevel_3 : decode cX7_setLevel 3 = .ok (.invokevirtual 98, 3) := by decide +kernel
theorem dX7_setLevel_6 : decode cX7_setLevel 6 = .ok (.ifCond .ne 7, 3) := by decide +kernel
theorem dX7_setLevel_9 : decode cX7_setLevel 9 = .ok (.iconst 1, 1) := by decide +kernel
theorem dX7_setLevel_10 : decode cX7_setLevel 10 = .ok (.goto 18, 3) := by decide +kernel
theorem dX7_setLevel_13 : decode cX7_setLevel 13 = .ok (.iload_n 2, 1) := by decide +kernel
theorem dX7_setLevel_14 : decode cX7_setLevel 14 = .ok (.iconst 0, 1) := by decide +kernel
theorem dX7_setLevel_15 : decode cX7_setLevel 15 = .ok (.bipush 99, 2) := by decide +kernel
theorem dX7_setLevel_17 : decode cX7_setLevel 17 = .ok (.invokestatic 26, 3) := by decide +kernel
theorem dX7_setLevel_20 : decode cX7_setLevel 20 = .ok (.ifCond .ne 7, 3) := by decide +kernel
theorem dX7_setLevel_23 : decode cX7_setLevel 23 = .ok (.iconst 2, 1) := by decide +kernel
theorem dX7_setLevel_24 : decode cX7_setLevel 24 = .ok (.goto 4, 3) := by decide +kernel
theorem dX7_setLevel_27 : decode cX7_setLevel 27 = .ok (.iconst 0, 1) := by decide +kernel
theorem dX7_setLevel_28 : decode cX7_setLevel 28 = .ok (.putfield 22, 3) := by decide +kernel
theorem dX7_setLevel_31 : decode cX7_setLevel 31 = .ok (.aload_n 0, 1) := by decide +kernel
theorem dX7_setLevel_32 : decode cX7_setLevel 32 = .ok (.getfield 22, 3) := by decide +kernel
theorem dX7_setLevel_35 : decode cX7_setLevel 35 = .ok (.ifCond .le 5, 3) := by decide +kernel
theorem dX7_setLevel_38 : decode cX7_setLevel 38 = .ok (.iconst 0, 1) := by decide +kernel
theorem dX7_setLevel_39 : decode cX7_setLevel 39 = .ok (.ireturn, 1) := by decide +kernel
theorem dX7_setLevel_40 : decode cX7_setLevel 40 = .ok (.aload_n 0, 1) := by decide +kernel
theorem dX7_setLevel_41 : decode cX7_setLevel 41 = .ok (.invokevirtual 128, 3) := by decide +kernel
theorem dX7_setLevel_44 : decode cX7_setLevel 44 = .ok (.aload_n 0, 1) := by decide +kernel
theorem dX7_setLevel_45 : decode cX7_setLevel 45 = .ok (.iload_n 1, 1) := by decide +kernel
theorem dX7_setLevel_46 : decode cX7_setLevel 46 = .ok (.iconst 0, 1) := by decide +kernel
theorem dX7_setLevel_47 : decode cX7_setLevel 47 = .ok (.invokevirtual 37, 3) := by decide +kernel
theorem dX7_setLevel_50 : decode cX7_setLevel 50 = .ok (.istore_n 3, 1) := by decide +kernel
theorem dX7_setLevel_51 : decode cX7_setLevel 51 = .ok (.aload_n 0, 1) := by decide +kernel
theorem dX7_setLevel_52 : decode cX7_setLevel 52 = .ok (.iload_n 1, 1) := by decide +kernel
theorem dX7_setLevel_53 : decode cX7_setLevel 53 = .ok (.iconst 0, 1) := by decide +kernel
theorem dX7_setLevel_54 : decode cX7_setLevel 54 = .ok (.iload_n 2, 1) := by decide +kernel
theorem dX7_setLevel_55 : decode cX7_setLevel 55 = .ok (.invokevirtual 107, 3) := by decide +kernel
theorem dX7_setLevel_58 : decode cX7_setLevel 58 = .ok (.aload_n 0, 1) := by decide +kernel
theorem dX7_setLevel_59 : decode cX7_setLevel 59 = .ok (.iload_n 1, 1) := by decide +kernel
theorem dX7_setLevel_60 : decode cX7_setLevel 60 = .ok (.iconst 3, 1) := by decide +kernel
theorem dX7_setLevel_61 : decode cX7_setLevel 61 = .ok (.iconst (-1), 1) := by decide +kernel
theorem dX7_setLevel_62 : decode cX7_setLevel 62 = .ok (.invokevirtual 107, 3) := by decide +kernel
theorem dX7_setLevel_65 : decode cX7_setLevel 65 = .ok (.iload_n 3, 1) := by decide +kernel
theorem dX7_setLevel_66 : decode cX7_setLevel 66 = .ok (.ireturn, 1) := by decide +kernel
set_option maxRecDepth 200000 in
theorem ggX7_label_X7_acts : GoodIn wsX7_label wsX7_acts := goodIn_r _ [5, 6, 7, 8, 9, 4, 10, 11, 12, 13, 14, 15, 16, 17, 18, 19, 20, 21, 22, 23, 24, 25, 26, 27, 28, 29, 30, 31, 32, 33, 34, 35, 36, 37, 38, 39, 40, 41, 42, 43, 44, 45, 46, 47, 48, 49, 50, 51, 52, 53, 54, 55, 56, 57, 58, 59, 60, 61, 62, 63, 64, 65, 66, 67, 68, 69, 70, 71, 72, 73, 74, 75, 76, 77, 78, 79, 80, 81, 82, 83, 84, 85, 86, 87, 88, 89, 90, 91, 92, 93, 94, 95, 96, 97, 98, 99, 100, 101, 102, 103, 104, 105, 106, 107, 108, 109, 110, 111, 112, 113, 114, 115, 116, 117, 118, 119, 120, 121, 122, 123, 124, 125, 126, 127, 128, 129, 130, 131, 132, 133, 134, 135, 136, 137, 138, 139, 140, 141, 142, 143] rfl (by decide +kernel)
set_option maxRecDepth 200000 in
theorem gX7_label_X7_acts : GoodIn wsX7_label (wsV RX7 134 RX7 yX7_acts wsX7_acts) := goodIn_app (goodIn_of _ (by decide +kernel)) ggX7_label_X7_acts
theorem dX7_label_0 : decode cX7_label 0 = .ok (.aload_n 0, 1) := by decide +kernel
theorem dX7_label_1 : decode cX7_label 1 = .ok (.bipush 108, 2) := by decide +kernel
theorem dX7_label_3 : decode cX7_label 3 = .ok (.iload_n 1, 1) := by decide +kernel
theorem dX7_label_4 : decode cX7_label 4 = .ok (.iload_n 2, 1) := by decide +kernel
theorem dX7_label_5 : decode cX7_label 5 = .ok (.invokevirtual 134, 3) := by decide +kernel
theorem dX7_label_8 : decode cX7_label 8 = .ok (.ireturn, 1) := by decide +kernel
set_option maxRecDepth 200000 in
theorem ggX7_unlabel_X7_acts : GoodIn wsX7_unlabel wsX7_acts := goodIn_r _ [5, 6, 7, 8, 9, 4, 10, 11, 12, 13, 14, 15, 16, 17, 18, 19, 20, 21, 22, 23, 24, 25, 26, 27, 28, 29, 30, 31, 32, 33, 34, 35, 36, 37, 38, 39, 40, 41, 42, 43, 44, 45, 46, 47, 48, 49, 50, 51, 52, 53, 54, 55, 56, 57, 58, 59, 60, 61, 62, 63, 64, 65, 66, 67, 68, 69, 70, 71, 72, 73, 74, 75, 76, 77, 78, 79, 80, 81, 82, 83, 84, 85, 86, 87, 88, 89, 90, 91, 92, 93, 94, 95, 96, 97, 98, 99, 100, 101, 102, 103, 104, 105, 106, 107, 108, 109, 110, 111, 112, 113, 114, 115, 116, 117, 118, 119, 120, 121, 122, 123, 124, 125, 126, 127, 128, 129, 130, 131, 132, 133, 134, 135, 136, 137, 138, 139, 140, 141, 142, 143] rfl (by decide +kernel)
set_option maxRecDepth 200000 in
theorem gX7_unlabel_X7_acts : GoodIn wsX7_unlabel (wsV RX7 134 RX7 yX7_acts wsX7_acts) := goodIn_app (goodIn_of _ (by decide +kernel)) ggX7_unlabel_X7_acts
theorem dX7_unlabel_0 : decode cX7_unlabel 0 = .ok (.aload_n 0, 1) := by decide +kernel
theorem dX7_unlabel_1 : decode cX7_unlabel 1 = .ok (.bipush 117, 2) := by decide +kernel
theorem dX7_unlabel_3 : decode cX7_unlabel 3 = .ok (.iload_n 1, 1) := by decide +kernel
theorem dX7_unlabel_4 : decode cX7_unlabel 4 = .ok (.iconst 0, 1) := by decide +kernel
theorem dX7_unlabel_5 : decode cX7_unlabel 5 = .ok (.invokevirtual 134, 3) := by decide +kernel
theorem dX7_unlabel_8 : decode cX7_unlabel 8 = .ok (.ireturn, 1) := by decide +kernel
set_option maxRecDepth 200000 in
theorem ggX7_labelBest_X7_acts : GoodIn wsX7_labelBest wsX7_acts := goodIn_r _ [5, 6, 7, 8, 9, 4, 10, 11, 12, 13, 14, 15, 16, 17, 18, 19, 20, 21, 22, 23, 24, 25, 26, 27, 28, 29, 30, 31, 32, 33, 34, 35, 36, 37, 38, 39, 40, 41, 42, 43, 44, 45, 46, 47, 48, 49, 50, 51, 52, 53, 54, 55, 56, 57, 58, 59, 60, 61, 62, 63, 64, 65, 66, 67, 68, 69, 70, 71, 72, 73, 74, 75, 76, 77, 78, 79, 80, 81, 82, 83, 84, 85, 86, 87, 88, 89, 90, 91, 92, 93, 94, 95, 96, 97, 98, 99, 100, 101, 102, 103, 104, 105, 106, 107, 108, 109, 110, 111, 112, 113, 114, 115, 116, 117, 118, 119, 120, 121, 122, 123, 124, 125, 126, 127, 128, 129, 130, 131, 132, 133, 134, 135, 136, 137, 138, 139, 140, 141, 142, 143] rfl (by decide +kernel)
set_option maxRecDepth 200000 in
theorem gX7_labelBest_X7_acts : GoodIn wsX7_labelBest (wsV RX7 134 RX7 yX7_acts wsX7_acts) := goodIn_app (goodIn_of _ (by decide +kernel)) ggX7_labelBest_X7_acts
theorem dX7_labelBest_0 : decode cX7_labelBest 0 = .ok (.aload_n 0, 1) := by decide +kernel
theorem dX7_labelBest_1 : decode cX7_labelBest 1 = .ok (.bipush 98, 2) := by decide +kernel
theorem dX7_labelBest_3 : decode cX7_labelBest 3 = .ok (.iload_n 1, 1) := by decide +kernel
theorem dX7_labelBest_4 : decode cX7_labelBest 4 = .ok (.iconst 0, 1) := by decide +kernel
theorem dX7_labelBest_5 : decode cX7_labelBest 5 = .ok (.invokevirtual 134, 3) := by decide +kernel
theorem dX7_labelBest_8 : decode cX7_labelBest 8 = .ok (.ireturn, 1) := by decide +kernel
set_option maxRecDepth 200000 in
theorem ggX7_labelAll_X7_acts : GoodIn wsX7_labelAll wsX7_acts := goodIn_r _ [5, 6, 7, 8, 9, 4, 10, 11, 12, 13, 14, 15, 16, 17, 18, 19, 20, 21, 22, 23, 24, 25, 26, 27, 28, 29, 30, 31, 32, 33, 34, 35, 36, 37, 38, 39, 40, 41, 42, 43, 44, 45, 46, 47, 48, 49, 50, 51, 52, 53, 54, 55, 56, 57, 58, 59, 60, 61, 62, 63, 64, 65, 66, 67, 68, 69, 70, 71, 72, 73, 74, 75, 76, 77, 78, 79, 80, 81, 82, 83, 84, 85, 86, 87, 88, 89, 90, 91, 92, 93, 94, 95, 96, 97, 98, 99, 100, 101, 102, 103, 104, 105, 106, 107, 108, 109, 110, 111, 112, 113, 114, 115, 116, 117, 118, 119, 120, 121, 122, 123, 124, 125, 126, 127, 128, 129, 130, 131, 132, 133, 134, 135, 136, 137, 138, 139, 140, 141, 142, 143] rfl (by decide +kernel)
set_option maxRecDepth 200000 in
theorem gX7_labelAll_X7_acts : GoodIn wsX7_labelAll (wsV RX7 134 RX7 yX7_acts wsX7_acts) := goodIn_app (goodIn_of _ (by decide +kernel)) ggX7_labelAll_X7_acts
theorem dX7_labelAll_0 : decode cX7_labelAll 0 = .ok (.aload_n 0, 1) := by decide +kernel
theorem dX7_labelAll_1 : decode cX7_labelAll 1 = .ok (.bipush 97, 2) := by decide +kernel
theorem dX7_labelAll_3 : decode cX7_labelAll 3 = .ok (.iconst 0, 1) := by decide +kernel
theorem dX7_labelAll_4 : decode cX7_labelAll 4 = .ok (.iconst 0, 1) := by decide +kernel
theorem dX7_labelAll_5 : decode cX7_labelAll 5 = .ok (.invokevirtual 134, 3) := by decide +kernel
theorem dX7_labelAll_8 : decode cX7_labelAll 8 = .ok (.ireturn, 1) := by decide +kernel
set_option maxRecDepth 200000 in
theorem ggX7_setGap_X7_acts : GoodIn wsX7_setGap wsX7_acts := goodIn_r _ [5, 6, 7, 8, 9, 4, 10, 11, 12, 13, 14, 15, 16, 17, 18, 19, 20, 21, 22, 23, 24, 25, 26, 27, 28, 29, 30, 31, 32, 33, 34, 35, 36, 37, 38, 39, 40, 41, 42, 43, 44, 45, 46, 47, 48, 49, 50, 51, 52, 53, 54, 55, 56, 57, 58, 59, 60, 61, 62, 63, 64, 65, 66, 67, 68, 69, 70, 71, 72, 73, 74, 75, 76, 77, 78, 79, 80, 81, 82, 83, 84, 85, 86, 87, 88, 89, 90, 91, 92, 93, 94, 95, 96, 97, 98, 99, 100, 101, 102, 103, 104, 105, 106, 107, 108, 109, 110, 111, 112, 113, 114, 115, 116, 117, 118, 119, 120, 121, 122, 123, 124, 125, 126, 127, 128, 129, 130, 131, 132, 133, 134, 135, 136, 137, 138, 139, 140, 141, 142, 143] rfl (by decide +kernel)
set_option maxRecDepth 200000 in
theorem gX7_setGap_X7_acts : GoodIn wsX7_setGap (wsV RX7 134 RX7 yX7_acts wsX7_acts) := goodIn_app (goodIn_of _ (by decide +kernel)) ggX7_setGap_X7_acts
theorem dX7_setGap_0 : decode cX7_setGap 0 = .ok (.aload_n 0, 1) := by decide +kernel
theorem dX7_setGap_1 : decode cX7_setGap 1 = .ok (.bipush 103, 2) := by decide +kernel
theorem dX7_setGap_3 : decode cX7_setGap 3 = .ok (.iload_n 1, 1) := by decide +kernel
theorem dX7_setGap_4 : decode cX7_setGap 4 = .ok (.iconst 0, 1) := by decide +kernel
