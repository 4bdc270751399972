theorem dL_areLines_247 : decode cL_areLines 247 = .ok (.iload_n 3, 1) := by decide +kernel
theorem dL_areLines_248 : decode cL_areLines 248 = .ok (.iload 8, 2) := by decide +kernel
theorem dL_areLines_250 : decode cL_areLines 250 = .ok (.ishr, 1) := by decide +kernel
theorem dL_areLines_251 : decode cL_areLines 251 = .ok (.iconst 3, 1) := by decide +kernel
theorem dL_areLines_252 : decode cL_areLines 252 = .ok (.invokestatic 133, 3) := by decide +kernel
theorem dL_areLines_255 : decode cL_areLines 255 = .ok (.ifCond .ne 32, 3) := by decide +kernel
theorem dL_areLines_258 : decode cL_areLines 258 = .ok (.iload 10, 2) := by decide +kernel
theorem dL_areLines_260 : decode cL_areLines 260 = .ok (.aload_n 1, 1) := by decide +kernel
theorem dL_areLines_261 : decode cL_areLines 261 = .ok (.iload 8, 2) := by decide +kernel
theorem dL_areLines_263 : decode cL_areLines 263 = .ok (.aload 4, 2) := by decide +kernel
theorem dL_areLines_265 : decode cL_areLines 265 = .ok (.iload 11, 2) := by decide +kernel
theorem dL_areLines_267 : decode cL_areLines 267 = .ok (.invokestatic 59, 3) := by decide +kernel
theorem dL_areLines_270 : decode cL_areLines 270 = .ok (.ifCond .eq 7, 3) := by decide +kernel
theorem dL_areLines_273 : decode cL_areLines 273 = .ok (.iconst 1, 1) := by decide +kernel
theorem dL_areLines_274 : decode cL_areLines 274 = .ok (.goto 4, 3) := by decide +kernel
theorem dL_areLines_277 : decode cL_areLines 277 = .ok (.iconst 0, 1) := by decide +kernel
theorem dL_areLines_278 : decode cL_areLines 278 = .ok (.iadd, 1) := by decide +kernel
theorem dL_areLines_279 : decode cL_areLines 279 = .ok (.istore 10, 2) := by decide +kernel
theorem dL_areLines_281 : decode cL_areLines 281 = .ok (.iinc 11 1, 3) := by decide +kernel
theorem dL_areLines_284 : decode cL_areLines 284 = .ok (.goto (-45), 3) := by decide +kernel
theorem dL_areLines_287 : decode cL_areLines 287 = .ok (.aload_n 0, 1) := by decide +kernel
theorem dL_areLines_288 : decode cL_areLines 288 = .ok (.iload 9, 2) := by decide +kernel
theorem dL_areLines_290 : decode cL_areLines 290 = .ok (.invokevirtual 152, 3) := by decide +kernel
theorem dL_areLines_293 : decode cL_areLines 293 = .ok (.iload 8, 2) := by decide +kernel
theorem dL_areLines_295 : decode cL_areLines 295 = .ok (.if_icmp .ne 29, 3) := by decide +kernel
theorem dL_areLines_298 : decode cL_areLines 298 = .ok (.iload_n 3, 1) := by decide +kernel
theorem dL_areLines_299 : decode cL_areLines 299 = .ok (.iload 8, 2) := by decide +kernel
theorem dL_areLines_301 : decode cL_areLines 301 = .ok (.ishr, 1) := by decide +kernel
theorem dL_areLines_302 : decode cL_areLines 302 = .ok (.iconst 3, 1) := by decide +kernel
theorem dL_areLines_303 : decode cL_areLines 303 = .ok (.invokestatic 133, 3) := by decide +kernel
theorem dL_areLines_306 : decode cL_areLines 306 = .ok (.ifCond .gt 14, 3) := by decide +kernel
theorem dL_areLines_309 : decode cL_areLines 309 = .ok (.aload_n 0, 1) := by decide +kernel
theorem dL_areLines_310 : decode cL_areLines 310 = .ok (.iload 8, 2) := by decide +kernel
theorem dL_areLines_312 : decode cL_areLines 312 = .ok (.invokevirtual 155, 3) := by decide +kernel
theorem dL_areLines_315 : decode cL_areLines 315 = .ok (.iload 10, 2) := by decide +kernel
theorem dL_areLines_317 : decode cL_areLines 317 = .ok (.if_icmp .ne 7, 3) := by decide +kernel
theorem dL_areLines_320 : decode cL_areLines 320 = .ok (.iconst 1, 1) := by decide +kernel
theorem dL_areLines_321 : decode cL_areLines 321 = .ok (.goto 4, 3) := by decide +kernel
theorem dL_areLines_324 : decode cL_areLines 324 = .ok (.iconst 0, 1) := by decide +kernel
theorem dL_areLines_325 : decode cL_areLines 325 = .ok (.istore 7, 2) := by decide +kernel
theorem dL_areLines_327 : decode cL_areLines 327 = .ok (.iinc 8 1, 3) := by decide +kernel
theorem dL_areLines_330 : decode cL_areLines 330 = .ok (.goto (-286), 3) := by decide +kernel
theorem dL_areLines_333 : decode cL_areLines 333 = .ok (.iload 7, 2) := by decide +kernel
theorem dL_areLines_335 : decode cL_areLines 335 = .ok (.ifCond .eq 25, 3) := by decide +kernel
theorem dL_areLines_338 : decode cL_areLines 338 = .ok (.aload_n 0, 1) := by decide +kernel
theorem dL_areLines_339 : decode cL_areLines 339 = .ok (.invokevirtual 158, 3) := by decide +kernel
theorem dL_areLines_342 : decode cL_areLines 342 = .ok (.iload 5, 2) := by decide +kernel
theorem dL_areLines_344 : decode cL_areLines 344 = .ok (.if_icmp .ne 16, 3) := by decide +kernel
theorem dL_areLines_347 : decode cL_areLines 347 = .ok (.aload_n 0, 1) := by decide +kernel
theorem dL_areLines_348 : decode cL_areLines 348 = .ok (.invokevirtual 161, 3) := by decide +kernel
theorem dL_areLines_351 : decode cL_areLines 351 = .ok (.iload 6, 2) := by decide +kernel
theorem dL_areLines_353 : decode cL_areLines 353 = .ok (.if_icmp .ne 7, 3) := by decide +kernel
theorem dL_areLines_356 : decode cL_areLines 356 = .ok (.iconst 1, 1) := by decide +kernel
theorem dL_areLines_357 : decode cL_areLines 357 = .ok (.goto 4, 3) := by decide +kernel
theorem dL_areLines_360 : decode cL_areLines 360 = .ok (.iconst 0, 1) := by decide +kernel
theorem dL_areLines_361 : decode cL_areLines 361 = .ok (.ireturn, 1) := by decide +kernel
set_option maxRecDepth 200000 in
theorem ggL_told_X6_begin : GoodIn wsL_told wsX6_begin := goodIn_ca (goodIn_ca (goodIn_ca (goodIn_r _ [6, 7, 8, 9, 10, 11, 12, 5, 13, 14, 15, 16, 17, 18, 19, 20, 21, 22, 23, 24, 25, 26, 27, 28, 29, 30, 31, 32, 33, 34, 35, 36, 37, 38, 39, 40, 41, 42, 43, 44, 45, 46, 47, 48, 49, 50, 51, 52, 53, 54, 55, 56, 57, 58, 59, 60, 61, 62, 63, 64, 65, 66, 67, 68, 69, 70, 71, 72, 73, 74, 75, 76, 77, 226, 227, 228, 229, 230, 231, 232, 233, 234, 235, 236, 237, 238, 239, 240] rfl (by decide +kernel)) (goodIn_sub (fun _ h => List.mem_cons_of_mem _ (List.mem_append_left _ (List.mem_append_left _ (List.mem_append_right _ h)))) (by decide +kernel))) (goodIn_sub (fun _ h => List.mem_cons_of_mem _ (List.mem_append_left _ (List.mem_append_right _ h))) (by decide +kernel))) (goodIn_sub (fun _ h => List.mem_cons_of_mem _ (List.mem_append_right _ h)) (by decide +kernel))
set_option maxRecDepth 200000 in
theorem gL_told_X6_begin : GoodIn wsL_told (wsV RL 164 RX6 yX6_begin wsX6_begin) := goodIn_app (goodIn_of _ (by decide +kernel)) ggL_told_X6_begin
set_option maxRecDepth 200000 in
theorem ggL_told_X6_step : GoodIn wsL_told wsX6_step := goodIn_ca (goodIn_ca (goodIn_ca (goodIn_r _ [81, 7, 8, 9, 10, 82, 83, 84, 5, 85, 14, 15, 86, 87, 88, 27, 89, 29, 90, 91, 92, 22, 23, 93, 94, 95, 96, 97, 98, 99, 100, 101, 102, 103, 42, 47, 38, 39, 40, 41, 43, 44, 45, 46, 104, 105, 106, 107, 16, 17, 18, 108, 109, 110, 111, 112, 113, 30, 31, 32, 33, 34, 35, 36, 37, 114, 115, 116, 117, 118, 119, 120, 121, 122, 123, 48, 49, 50, 51, 52, 53, 54, 55, 56, 57, 58, 59, 60, 61, 62, 63, 64, 65, 66, 67, 68, 69, 70, 71, 72, 73, 124, 125, 126, 127, 128, 226, 227, 228, 229, 230, 231, 232, 233, 234, 235, 236, 237, 238, 239, 240] rfl (by decide +kernel)) (goodIn_sub (fun _ h => List.mem_cons_of_mem _ (List.mem_append_left _ (List.mem_append_left _ (List.mem_append_right _ h)))) (by decide +kernel))) (goodIn_sub (fun _ h => List.mem_cons_of_mem _ (List.mem_append_left _ (List.mem_append_right _ h))) (by decide +kernel))) (goodIn_sub (fun _ h => List.mem_cons_of_mem _ (List.mem_append_right _ h)) (by decide +kernel))
set_option maxRecDepth 200000 in
theorem gL_told_X6_step : GoodIn wsL_told (wsV RL 167 RX6 yX6_step wsX6_step) := goodIn_app (goodIn_of _ (by decide +kernel)) ggL_told_X6_step
set_option maxRecDepth 200000 in
theorem ggL_told_X6_label : GoodIn wsL_told wsX6_label := goodIn_ca (goodIn_ca (goodIn_r _ [132, 7, 8, 9, 10, 133, 134, 135, 5, 136, 14, 15, 137, 138, 139, 27, 140, 29, 42, 141, 142, 143, 144, 145, 146, 147, 148, 149, 150, 151, 39, 40, 41, 152, 101, 102, 103, 47, 153, 154, 155, 156, 157, 68, 158, 159, 160, 161, 162, 163, 164, 165, 166, 167, 168, 169, 170, 171, 172, 173, 174, 175, 176, 177, 178, 100, 38, 179, 180, 181, 182, 183, 44, 45, 46, 112, 113, 109, 110, 184, 185, 186, 187, 188, 189, 190, 191, 192, 193, 194, 195, 73, 196, 197, 198, 199, 200, 201, 202, 203, 204, 108, 111, 205, 206, 207, 208, 67, 48, 49, 50, 51, 52, 53, 54, 55, 56, 57, 58, 59, 60, 61, 62, 63, 64, 65, 66, 69, 70, 71, 72, 209, 210, 211, 212, 213, 226, 227, 228, 229, 230, 231, 232, 233, 234, 235, 236, 237, 238, 239, 240] rfl (by decide +kernel)) (goodIn_sub (fun _ h => List.mem_cons_of_mem _ (List.mem_append_left _ (List.mem_append_left _ (List.mem_append_right _ h)))) (by decide +kernel))) (goodIn_sub (fun _ h => List.mem_cons_of_mem _ (List.mem_append_left _ (List.mem_append_right _ h))) (by decide +kernel))
set_option maxRecDepth 200000 in
theorem gL_told_X6_label : GoodIn wsL_told (wsV RL 170 RX6 yX6_label wsX6_label) := goodIn_app (goodIn_of _ (by decide +kernel)) ggL_told_X6_label
set_option maxRecDepth 200000 in
theorem ggL_told_X6_unlabel : GoodIn wsL_told wsX6_unlabel := goodIn_ca (goodIn_ca (goodIn_r _ [217, 7, 8, 9, 10, 82, 83, 84, 5, 85, 14, 15, 86, 87, 88, 27, 89, 29, 218, 193, 194, 195, 73, 48, 49, 50, 51, 52, 53, 54, 55, 56, 57, 58, 59, 60, 61, 62, 63, 64, 65, 66, 67, 68, 69, 70, 71, 72, 42, 47, 209, 210, 211, 212, 226, 227, 228, 229, 230, 231, 232, 233, 234, 235, 236, 237, 238, 239, 240] rfl (by decide +kernel)) (goodIn_sub (fun _ h => List.mem_cons_of_mem _ (List.mem_append_left _ (List.mem_append_left _ (List.mem_append_right _ h)))) (by decide +kernel))) (goodIn_sub (fun _ h => List.mem_cons_of_mem _ (List.mem_append_left _ (List.mem_append_right _ h))) (by decide +kernel))
set_option maxRecDepth 200000 in
theorem gL_told_X6_unlabel : GoodIn wsL_told (wsV RL 173 RX6 yX6_unlabel wsX6_unlabel) := goodIn_app (goodIn_of _ (by decide +kernel)) ggL_told_X6_unlabel
set_option maxRecDepth 200000 in
theorem ggL_told_X6_labelBest : GoodIn wsL_told wsX6_labelBest := goodIn_ca (goodIn_ca (goodIn_r _ [222, 7, 8, 9, 10, 82, 83, 84, 5, 85, 14, 15, 86, 87, 88, 27, 89, 29, 223, 224, 143, 225, 151, 39, 40, 41, 42, 145, 146, 147, 148, 149, 150, 152, 101, 102, 103, 47, 153, 138, 139, 140, 154, 155, 156, 157, 68, 158, 159, 160, 161, 162, 163, 164, 165, 166, 167, 168, 169, 170, 171, 172, 173, 174, 175, 176, 177, 178, 100, 38, 179, 180, 181, 182, 183, 44, 45, 46, 112, 113, 109, 110, 184, 185, 186, 187, 188, 189, 190, 191, 192, 193, 194, 195, 73, 196, 197, 198, 199, 200, 201, 202, 203, 204, 108, 111, 205, 206, 207, 208, 67, 48, 49, 50, 51, 52, 53, 54, 55, 56, 57, 58, 59, 60, 61, 62, 63, 64, 65, 66, 69, 70, 71, 72, 209, 210, 211, 212, 226, 227, 228, 229, 230, 231, 232, 233, 234, 235, 236, 237, 238, 239, 240] rfl (by decide +kernel)) (goodIn_sub (fun _ h => List.mem_cons_of_mem _ (List.mem_append_left _ (List.mem_append_left _ (List.mem_append_right _ h)))) (by decide +kernel))) (goodIn_sub (fun _ h => List.mem_cons_of_mem _ (List.mem_append_left _ (List.mem_append_right _ h))) (by decide +kernel))
set_option maxRecDepth 200000 in
theorem gL_told_X6_labelBest : GoodIn wsL_told (wsV RL 176 RX6 yX6_labelBest wsX6_labelBest) := goodIn_app (goodIn_of _ (by decide +kernel)) ggL_told_X6_labelBest
theorem dL_told_0 : decode cL_told 0 = .ok (.iload_n 1, 1) := by decide +kernel
theorem dL_told_1 : decode cL_told 1 = .ok (.ifCond .ne 12, 3) := by decide +kernel
theorem dL_told_4 : decode cL_told 4 = .ok (.aload_n 0, 1) := by decide +kernel
theorem dL_told_5 : decode cL_told 5 = .ok (.iload_n 2, 1) := by decide +kernel
theorem dL_told_6 : decode cL_told 6 = .ok (.iload_n 3, 1) := by decide +kernel
theorem dL_told_7 : decode cL_told 7 = .ok (.invokevirtual 164, 3) := by decide +kernel
theorem dL_told_10 : decode cL_told 10 = .ok (.goto 57, 3) := by decide +kernel
theorem dL_told_13 : decode cL_told 13 = .ok (.iload_n 1, 1) := by decide +kernel
theorem dL_told_14 : decode cL_told 14 = .ok (.iconst 1, 1) := by decide +kernel
theorem dL_told_15 : decode cL_told 15 = .ok (.if_icmp .ne 20, 3) := by decide +kernel
theorem dL_told_18 : decode cL_told 18 = .ok (.aload_n 0, 1) := by decide +kernel
theorem dL_told_19 : decode cL_told 19 = .ok (.iload_n 2, 1) := by decide +kernel
theorem dL_told_20 : decode cL_told 20 = .ok (.iload_n 3, 1) := by decide +kernel
theorem dL_told_21 : decode cL_told 21 = .ok (.invokevirtual 167, 3) := by decide +kernel
theorem dL_told_24 : decode cL_told 24 = .ok (.ifCond .eq 7, 3) := by decide +kernel
theorem dL_told_27 : decode cL_told 27 = .ok (.iconst 1, 1) := by decide +kernel
theorem dL_told_28 : decode cL_told 28 = .ok (.goto 39, 3) := by decide +kernel
theorem dL_told_31 : decode cL_told 31 = .ok (.iconst 0, 1) := by decide +kernel
theorem dL_told_32 : decode cL_told 32 = .ok (.goto 35, 3) := by decide +kernel
theorem dL_told_35 : decode cL_told 35 = .ok (.iload_n 1, 1) := by decide +kernel
theorem dL_told_36 : decode cL_told 36 = .ok (.iconst 2, 1) := by decide +kernel
theorem dL_told_37 : decode cL_told 37 = .ok (.if_icmp .ne 12, 3) := by decide +kernel
theorem dL_told_40 : decode cL_told 40 = .ok (.aload_n 0, 1) := by decide +kernel
theorem dL_told_41 : decode cL_told 41 = .ok (.iload_n 2, 1) := by decide +kernel
theorem dL_told_42 : decode cL_told 42 = .ok (.iload_n 3, 1) := by decide +kernel
theorem dL_told_43 : decode cL_told 43 = .ok (.invokevirtual 170, 3) := by decide +kernel
theorem dL_told_46 : decode cL_told 46 = .ok (.goto 21, 3) := by decide +kernel
theorem dL_told_49 : decode cL_told 49 = .ok (.iload_n 1, 1) := by decide +kernel
theorem dL_told_50 : decode cL_told 50 = .ok (.iconst 3, 1) := by decide +kernel
theorem dL_told_51 : decode cL_told 51 = .ok (.if_icmp .ne 11, 3) := by decide +kernel
theorem dL_told_54 : decode cL_told 54 = .ok (.aload_n 0, 1) := by decide +kernel
theorem dL_told_55 : decode cL_told 55 = .ok (.iload_n 2, 1) := by decide +kernel
theorem dL_told_56 : decode cL_told 56 = .ok (.invokevirtual 173, 3) := by decide +kernel
theorem dL_told_59 : decode cL_told 59 = .ok (.goto 8, 3) := by decide +kernel
theorem dL_told_62 : decode cL_told 62 = .ok (.aload_n 0, 1) := by decide +kernel
theorem dL_told_63 : decode cL_told 63 = .ok (.iload_n 2, 1) := by decide +kernel
theorem dL_told_64 : decode cL_told 64 = .ok (.invokevirtual 176, 3) := by decide +kernel
theorem dL_told_67 : decode cL_told 67 = .ok (.ireturn, 1) := by decide +kernel
theorem dL_told_68 : decode cL_told 68 = .ok (.astore 4, 2) := by decide +kernel
theorem dL_told_70 : decode cL_told 70 = .ok (.bipush (-13), 2) := by decide +kernel
theorem dL_told_72 : decode cL_told 72 = .ok (.ireturn, 1) := by decide +kernel
set_option maxRecDepth 200000 in
theorem ggL_begins_L_owner : GoodIn wsL_begins wsL_owner := goodIn_r _ [4, 5, 6, 7, 3, 8, 9, 10, 11, 12, 13, 14, 15, 16, 17] rfl (by decide +kernel)
set_option maxRecDepth 200000 in
theorem gL_begins_L_owner : GoodIn wsL_begins (va_wsS RL 30 yL_owner wsL_owner) := goodIn_app (goodIn_of _ (by decide +kernel)) ggL_begins_L_owner
set_option maxRecDepth 200000 in
theorem ggL_begins_L_told : GoodIn wsL_begins wsL_told := goodIn_ca (goodIn_ca (goodIn_ca (goodIn_r _ [20, 21, 22, 23, 24, 25, 26, 27, 28, 29, 30, 31, 32, 33, 34, 35, 36, 37, 38, 39, 40, 41, 42, 43, 44, 45, 46, 47, 48, 49, 50, 51, 52, 53, 54, 55, 56, 57, 58, 59, 60, 61, 62, 63, 64, 65, 66, 67, 68, 69, 70, 71, 72, 73, 74, 75, 76, 77, 78, 79, 80, 81, 82, 83, 84, 85, 86, 87, 88, 89, 90, 91, 92, 93, 94, 95, 96, 97, 98, 99, 100, 101, 102, 103, 104, 105, 106, 107, 108, 109, 110, 111, 112, 113, 114, 115, 116, 117, 118, 119, 120, 121, 122, 123, 124, 125, 126, 127, 128, 129, 130, 131, 132, 133, 134, 135, 136, 137, 138, 139, 140, 141, 142, 143, 144, 145, 146, 147, 148, 149, 150, 151, 152, 153, 154, 155, 156, 157, 158, 159, 160, 161, 162, 163, 164, 165, 166, 167, 168, 169, 170, 171, 172, 173, 174, 175, 176, 177, 178, 179, 180, 181, 182, 183, 184, 185, 186, 187, 188, 189, 190, 191, 192, 193, 194, 195, 196, 197, 198, 199, 200, 201, 202, 203, 204, 205, 206, 207, 208, 209, 210, 211, 212, 213, 214, 215, 216, 217, 218, 219, 220, 221, 222, 223, 224, 225, 226, 227, 228, 229, 230, 231, 232, 233, 234, 235, 236, 237, 238, 239, 240, 241, 242, 243, 244, 245, 246, 247, 248, 249, 250, 251, 252, 253, 254, 255, 256, 257, 258, 259, 260] rfl (by decide +kernel)) (goodIn_sub (fun _ h => List.mem_cons_of_mem _ (List.mem_append_left _ (List.mem_append_left _ (List.mem_append_right _ h)))) (by decide +kernel))) (goodIn_sub (fun _ h => List.mem_cons_of_mem _ (List.mem_append_left _ (List.mem_append_right _ h))) (by decide +kernel))) (goodIn_sub (fun _ h => List.mem_cons_of_mem _ (List.mem_append_right _ h)) (by decide +kernel))
set_option maxRecDepth 200000 in
theorem gL_begins_L_told : GoodIn wsL_begins (va_wsS RL 181 yL_told wsL_told) := goodIn_app (goodIn_of _ (by decide +kernel)) ggL_begins_L_told
theorem dL_begins_0 : decode cL_begins 0 = .ok (.aload_n 1, 1) := by decide +kernel
theorem dL_begins_1 : decode cL_begins 1 = .ok (.bipush 32, 2) := by decide +kernel
theorem dL_begins_3 : decode cL_begins 3 = .ok (.iaload, 1) := by decide +kernel
theorem dL_begins_4 : decode cL_begins 4 = .ok (.bipush 8, 2) := by decide +kernel
theorem dL_begins_6 : decode cL_begins 6 = .ok (.if_icmp .ge 17, 3) := by decide +kernel
theorem dL_begins_9 : decode cL_begins 9 = .ok (.aload_n 1, 1) := by decide +kernel
theorem dL_begins_10 : decode cL_begins 10 = .ok (.aload_n 2, 1) := by decide +kernel
theorem dL_begins_11 : decode cL_begins 11 = .ok (.iload 4, 2) := by decide +kernel
theorem dL_begins_13 : decode cL_begins 13 = .ok (.invokestatic 30, 3) := by decide +kernel
theorem dL_begins_16 : decode cL_begins 16 = .ok (.ifCond .ge 7, 3) := by decide +kernel
theorem dL_begins_19 : decode cL_begins 19 = .ok (.iconst 1, 1) := by decide +kernel
theorem dL_begins_20 : decode cL_begins 20 = .ok (.goto 4, 3) := by decide +kernel
theorem dL_begins_23 : decode cL_begins 23 = .ok (.iconst 0, 1) := by decide +kernel
theorem dL_begins_24 : decode cL_begins 24 = .ok (.istore 5, 2) := by decide +kernel
theorem dL_begins_26 : decode cL_begins 26 = .ok (.aload_n 1, 1) := by decide +kernel
theorem dL_begins_27 : decode cL_begins 27 = .ok (.bipush 32, 2) := by decide +kernel
theorem dL_begins_29 : decode cL_begins 29 = .ok (.iaload, 1) := by decide +kernel
theorem dL_begins_30 : decode cL_begins 30 = .ok (.istore 6, 2) := by decide +kernel
theorem dL_begins_32 : decode cL_begins 32 = .ok (.iload 5, 2) := by decide +kernel
theorem dL_begins_34 : decode cL_begins 34 = .ok (.ifCond .eq 71, 3) := by decide +kernel
theorem dL_begins_37 : decode cL_begins 37 = .ok (.aload_n 1, 1) := by decide +kernel
theorem dL_begins_38 : decode cL_begins 38 = .ok (.iconst 4, 1) := by decide +kernel
theorem dL_begins_39 : decode cL_begins 39 = .ok (.iload 6, 2) := by decide +kernel
theorem dL_begins_41 : decode cL_begins 41 = .ok (.imul, 1) := by decide +kernel
theorem dL_begins_42 : decode cL_begins 42 = .ok (.iload_n 3, 1) := by decide +kernel
theorem dL_begins_43 : decode cL_begins 43 = .ok (.iastore, 1) := by decide +kernel
theorem dL_begins_44 : decode cL_begins 44 = .ok (.aload_n 1, 1) := by decide +kernel
theorem dL_begins_45 : decode cL_begins 45 = .ok (.iconst 4, 1) := by decide +kernel
theorem dL_begins_46 : decode cL_begins 46 = .ok (.iload 6, 2) := by decide +kernel
theorem dL_begins_48 : decode cL_begins 48 = .ok (.imul, 1) := by decide +kernel
theorem dL_begins_49 : decode cL_begins 49 = .ok (.iconst 1, 1) := by decide +kernel
theorem dL_begins_50 : decode cL_begins 50 = .ok (.iadd, 1) := by decide +kernel
theorem dL_begins_51 : decode cL_begins 51 = .ok (.iload 4, 2) := by decide +kernel
theorem dL_begins_53 : decode cL_begins 53 = .ok (.iastore, 1) := by decide +kernel
theorem dL_begins_54 : decode cL_begins 54 = .ok (.aload_n 1, 1) := by decide +kernel
theorem dL_begins_55 : decode cL_begins 55 = .ok (.iconst 4, 1) := by decide +kernel
theorem dL_begins_56 : decode cL_begins 56 = .ok (.iload 6, 2) := by decide +kernel
theorem dL_begins_58 : decode cL_begins 58 = .ok (.imul, 1) := by decide +kernel
theorem dL_begins_59 : decode cL_begins 59 = .ok (.iconst 2, 1) := by decide +kernel
theorem dL_begins_60 : decode cL_begins 60 = .ok (.iadd, 1) := by decide +kernel
theorem dL_begins_61 : decode cL_begins 61 = .ok (.iconst 0, 1) := by decide +kernel
theorem dL_begins_62 : decode cL_begins 62 = .ok (.iastore, 1) := by decide +kernel
theorem dL_begins_63 : decode cL_begins 63 = .ok (.aload_n 1, 1) := by decide +kernel
theorem dL_begins_64 : decode cL_begins 64 = .ok (.iconst 4, 1) := by decide +kernel
theorem dL_begins_65 : decode cL_begins 65 = .ok (.iload 6, 2) := by decide +kernel
theorem dL_begins_67 : decode cL_begins 67 = .ok (.imul, 1) := by decide +kernel
theorem dL_begins_68 : decode cL_begins 68 = .ok (.iconst 3, 1) := by decide +kernel
theorem dL_begins_69 : decode cL_begins 69 = .ok (.iadd, 1) := by decide +kernel
theorem dL_begins_70 : decode cL_begins 70 = .ok (.iconst (-1), 1) := by decide +kernel
theorem dL_begins_71 : decode cL_begins 71 = .ok (.iastore, 1) := by decide +kernel
theorem dL_begins_72 : decode cL_begins 72 = .ok (.aload_n 2, 1) := by decide +kernel
theorem dL_begins_73 : decode cL_begins 73 = .ok (.iconst 3, 1) := by decide +kernel
theorem dL_begins_74 : decode cL_begins 74 = .ok (.iload 6, 2) := by decide +kernel
theorem dL_begins_76 : decode cL_begins 76 = .ok (.imul, 1) := by decide +kernel
theorem dL_begins_77 : decode cL_begins 77 = .ok (.lconst 0, 1) := by decide +kernel
theorem dL_begins_78 : decode cL_begins 78 = .ok (.lastore, 1) := by decide +kernel
theorem dL_begins_79 : decode cL_begins 79 = .ok (.aload_n 2, 1) := by decide +kernel
theorem dL_begins_80 : decode cL_begins 80 = .ok (.iconst 3, 1) := by decide +kernel
theorem dL_begins_81 : decode cL_begins 81 = .ok (.iload 6, 2) := by decide +kernel
theorem dL_begins_83 : decode cL_begins 83 = .ok (.imul, 1) := by decide +kernel
theorem dL_begins_84 : decode cL_begins 84 = .ok (.iconst 1, 1) := by decide +kernel
theorem dL_begins_85 : decode cL_begins 85 = .ok (.iadd, 1) := by decide +kernel
theorem dL_begins_86 : decode cL_begins 86 = .ok (.lconst 0, 1) := by decide +kernel
theorem dL_begins_87 : decode cL_begins 87 = .ok (.lastore, 1) := by decide +kernel
theorem dL_begins_88 : decode cL_begins 88 = .ok (.aload_n 2, 1) := by decide +kernel
theorem dL_begins_89 : decode cL_begins 89 = .ok (.iconst 3, 1) := by decide +kernel
theorem dL_begins_90 : decode cL_begins 90 = .ok (.iload 6, 2) := by decide +kernel
theorem dL_begins_92 : decode cL_begins 92 = .ok (.imul, 1) := by decide +kernel
theorem dL_begins_93 : decode cL_begins 93 = .ok (.iconst 2, 1) := by decide +kernel
theorem dL_begins_94 : decode cL_begins 94 = .ok (.iadd, 1) := by decide +kernel
theorem dL_begins_95 : decode cL_begins 95 = .ok (.lconst 0, 1) := by decide +kernel
theorem dL_begins_96 : decode cL_begins 96 = .ok (.lastore, 1) := by decide +kernel
theorem dL_begins_97 : decode cL_begins 97 = .ok (.aload_n 1, 1) := by decide +kernel
theorem dL_begins_98 : decode cL_begins 98 = .ok (.bipush 32, 2) := by decide +kernel
theorem dL_begins_100 : decode cL_begins 100 = .ok (.dup2, 1) := by decide +kernel
theorem dL_begins_101 : decode cL_begins 101 = .ok (.iaload, 1) := by decide +kernel
theorem dL_begins_102 : decode cL_begins 102 = .ok (.iconst 1, 1) := by decide +kernel
theorem dL_begins_103 : decode cL_begins 103 = .ok (.iadd, 1) := by decide +kernel
theorem dL_begins_104 : decode cL_begins 104 = .ok (.iastore, 1) := by decide +kernel
theorem dL_begins_105 : decode cL_begins 105 = .ok (.aload_n 0, 1) := by decide +kernel
theorem dL_begins_106 : decode cL_begins 106 = .ok (.iconst 0, 1) := by decide +kernel
theorem dL_begins_107 : decode cL_begins 107 = .ok (.iload_n 3, 1) := by decide +kernel
theorem dL_begins_108 : decode cL_begins 108 = .ok (.iload 4, 2) := by decide +kernel
theorem dL_begins_110 : decode cL_begins 110 = .ok (.invokestatic 181, 3) := by decide +kernel
theorem dL_begins_113 : decode cL_begins 113 = .ok (.iload 5, 2) := by decide +kernel
theorem dL_begins_115 : decode cL_begins 115 = .ok (.ifCond .eq 8, 3) := by decide +kernel
theorem dL_begins_118 : decode cL_begins 118 = .ok (.iload 6, 2) := by decide +kernel
theorem dL_begins_120 : decode cL_begins 120 = .ok (.goto 5, 3) := by decide +kernel
theorem dL_begins_123 : decode cL_begins 123 = .ok (.bipush (-13), 2) := by decide +kernel
theorem dL_begins_125 : decode cL_begins 125 = .ok (.if_icmp .ne 7, 3) := by decide +kernel
theorem dL_begins_128 : decode cL_begins 128 = .ok (.iconst 1, 1) := by decide +kernel
theorem dL_begins_129 : decode cL_begins 129 = .ok (.goto 4, 3) := by decide +kernel
theorem dL_begins_132 : decode cL_begins 132 = .ok (.iconst 0, 1) := by decide +kernel
theorem dL_begins_133 : decode cL_begins 133 = .ok (.ireturn, 1) := by decide +kernel
set_option maxRecDepth 200000 in
theorem ggL_steps_L_why : GoodIn wsL_steps wsL_why := goodIn_r _ [5, 1, 6, 7, 4, 8, 9, 10, 11, 12, 13, 14, 15, 16, 17, 18, 19, 20, 21, 22, 23] rfl (by decide +kernel)
set_option maxRecDepth 200000 in
theorem gL_steps_L_why : GoodIn wsL_steps (va_wsS RL 129 yL_why wsL_why) := goodIn_app (goodIn_of _ (by decide +kernel)) ggL_steps_L_why
set_option maxRecDepth 200000 in
theorem ggL_steps_L_told : GoodIn wsL_steps wsL_told := goodIn_ca (goodIn_ca (goodIn_ca (goodIn_r _ [26, 27, 28, 29, 30, 31, 32, 33, 34, 35, 36, 37, 38, 39, 40, 41, 42, 43, 44, 45, 46, 47, 48, 49, 50, 51, 52, 53, 54, 55, 56, 57, 58, 59, 60, 61, 62, 63, 64, 65, 66, 67, 68, 69, 70, 71, 72, 73, 74, 75, 76, 77, 78, 79, 80, 81, 82, 83, 84, 85, 86, 87, 88, 89, 90, 91, 92, 93, 94, 95, 96, 97, 98, 99, 100, 101, 102, 103, 104, 105, 106, 107, 108, 109, 110, 111, 112, 113, 114, 115, 116, 117, 118, 119, 120, 121, 122, 123, 124, 125, 126, 127, 128, 129, 130, 131, 132, 133, 134, 135, 136, 137, 138, 139, 140, 141, 142, 143, 144, 145, 146, 147, 148, 149, 150, 151, 152, 153, 154, 155, 156, 157, 158, 159, 160, 161, 162, 163, 164, 165, 166, 167, 168, 169, 170, 171, 172, 173, 174, 175, 176, 177, 178, 179, 180, 181, 182, 183, 184, 185, 186, 187, 188, 189, 190, 191, 192, 193, 194, 195, 196, 197, 198, 199, 200, 201, 202, 203, 204, 205, 206, 207, 208, 209, 210, 211, 212, 213, 214, 215, 216, 217, 218, 219, 220, 221, 222, 223, 224, 225, 226, 227, 228, 229, 230, 231, 232, 233, 234, 235, 236, 237, 238, 239, 240, 241, 242, 243, 244, 245, 246, 247, 248, 249, 250, 251, 252, 253, 254, 255, 256, 257, 258, 259, 260, 261, 262, 263, 264, 265, 266] rfl (by decide +kernel)) (goodIn_sub (fun _ h => List.mem_cons_of_mem _ (List.mem_append_left _ (List.mem_append_left _ (List.mem_append_right _ h)))) (by decide +kernel))) (goodIn_sub (fun _ h => List.mem_cons_of_mem _ (List.mem_append_left _ (List.mem_append_right _ h))) (by decide +kernel))) (goodIn_sub (fun _ h => List.mem_cons_of_mem _ (List.mem_append_right _ h)) (by decide +kernel))
set_option maxRecDepth 200000 in
theorem gL_steps_L_told : GoodIn wsL_steps (va_wsS RL 181 yL_told wsL_told) := goodIn_app (goodIn_of _ (by decide +kernel)) ggL_steps_L_told
set_option maxRecDepth 200000 in
theorem ggL_steps_L_walks : GoodIn wsL_steps wsL_walks := goodIn_r _ [8, 9, 10, 4, 11, 12, 13, 14, 15, 16, 17] rfl (by decide +kernel)
set_option maxRecDepth 200000 in
theorem gL_steps_L_walks : GoodIn wsL_steps (va_wsS RL 22 yL_walks wsL_walks) := goodIn_app (goodIn_of _ (by decide +kernel)) ggL_steps_L_walks
set_option maxRecDepth 200000 in
theorem ggL_steps_L_closed : GoodIn wsL_steps wsL_closed := goodIn_r _ [20] rfl (by decide +kernel)
set_option maxRecDepth 200000 in
theorem gL_steps_L_closed : GoodIn wsL_steps (va_wsS RL 26 yL_closed wsL_closed) := goodIn_app (goodIn_of _ (by decide +kernel)) ggL_steps_L_closed
theorem dL_steps_0 : decode cL_steps 0 = .ok (.bipush 61, 2) := by decide +kernel
theorem dL_steps_2 : decode cL_steps 2 = .ok (.newarray .int, 2) := by decide +kernel
theorem dL_steps_4 : decode cL_steps 4 = .ok (.astore 5, 2) := by decide +kernel
theorem dL_steps_6 : decode cL_steps 6 = .ok (.aload_n 1, 1) := by decide +kernel
theorem dL_steps_7 : decode cL_steps 7 = .ok (.aload_n 2, 1) := by decide +kernel
theorem dL_steps_8 : decode cL_steps 8 = .ok (.iload_n 3, 1) := by decide +kernel
theorem dL_steps_9 : decode cL_steps 9 = .ok (.iload 4, 2) := by decide +kernel
theorem dL_steps_11 : decode cL_steps 11 = .ok (.invokestatic 129, 3) := by decide +kernel
theorem dL_steps_14 : decode cL_steps 14 = .ok (.ifCond .le 22, 3) := by decide +kernel
theorem dL_steps_17 : decode cL_steps 17 = .ok (.aload_n 0, 1) := by decide +kernel
theorem dL_steps_18 : decode cL_steps 18 = .ok (.iconst 1, 1) := by decide +kernel
theorem dL_steps_19 : decode cL_steps 19 = .ok (.iload_n 3, 1) := by decide +kernel
theorem dL_steps_20 : decode cL_steps 20 = .ok (.iload 4, 2) := by decide +kernel
theorem dL_steps_22 : decode cL_steps 22 = .ok (.invokestatic 181, 3) := by decide +kernel
theorem dL_steps_25 : decode cL_steps 25 = .ok (.bipush (-13), 2) := by decide +kernel
theorem dL_steps_27 : decode cL_steps 27 = .ok (.if_icmp .ne 7, 3) := by decide +kernel
theorem dL_steps_30 : decode cL_steps 30 = .ok (.iconst 1, 1) := by decide +kernel
theorem dL_steps_31 : decode cL_steps 31 = .ok (.goto 4, 3) := by decide +kernel
theorem dL_steps_34 : decode cL_steps 34 = .ok (.iconst 0, 1) := by decide +kernel
theorem dL_steps_35 : decode cL_steps 35 = .ok (.ireturn, 1) := by decide +kernel
theorem dL_steps_36 : decode cL_steps 36 = .ok (.aload_n 1, 1) := by decide +kernel
theorem dL_steps_37 : decode cL_steps 37 = .ok (.iconst 4, 1) := by decide +kernel
theorem dL_steps_38 : decode cL_steps 38 = .ok (.iload_n 3, 1) := by decide +kernel
theorem dL_steps_39 : decode cL_steps 39 = .ok (.imul, 1) := by decide +kernel
theorem dL_steps_40 : decode cL_steps 40 = .ok (.iconst 2, 1) := by decide +kernel
theorem dL_steps_41 : decode cL_steps 41 = .ok (.iadd, 1) := by decide +kernel
theorem dL_steps_42 : decode cL_steps 42 = .ok (.iaload, 1) := by decide +kernel
theorem dL_steps_43 : decode cL_steps 43 = .ok (.istore 6, 2) := by decide +kernel
theorem dL_steps_45 : decode cL_steps 45 = .ok (.aload_n 2, 1) := by decide +kernel
theorem dL_steps_46 : decode cL_steps 46 = .ok (.iconst 3, 1) := by decide +kernel
theorem dL_steps_47 : decode cL_steps 47 = .ok (.iload_n 3, 1) := by decide +kernel
theorem dL_steps_48 : decode cL_steps 48 = .ok (.imul, 1) := by decide +kernel
theorem dL_steps_49 : decode cL_steps 49 = .ok (.iload 6, 2) := by decide +kernel
theorem dL_steps_51 : decode cL_steps 51 = .ok (.bipush 20, 2) := by decide +kernel
theorem dL_steps_53 : decode cL_steps 53 = .ok (.idiv, 1) := by decide +kernel
theorem dL_steps_54 : decode cL_steps 54 = .ok (.iadd, 1) := by decide +kernel
theorem dL_steps_55 : decode cL_steps 55 = .ok (.dup2, 1) := by decide +kernel
theorem dL_steps_56 : decode cL_steps 56 = .ok (.laload, 1) := by decide +kernel
theorem dL_steps_57 : decode cL_steps 57 = .ok (.iload 4, 2) := by decide +kernel
theorem dL_steps_59 : decode cL_steps 59 = .ok (.i2l, 1) := by decide +kernel
theorem dL_steps_60 : decode cL_steps 60 = .ok (.iconst 3, 1) := by decide +kernel
theorem dL_steps_61 : decode cL_steps 61 = .ok (.iload 6, 2) := by decide +kernel
theorem dL_steps_63 : decode cL_steps 63 = .ok (.bipush 20, 2) := by decide +kernel
theorem dL_steps_65 : decode cL_steps 65 = .ok (.irem, 1) := by decide +kernel
theorem dL_steps_66 : decode cL_steps 66 = .ok (.imul, 1) := by decide +kernel
theorem dL_steps_67 : decode cL_steps 67 = .ok (.lshl, 1) := by decide +kernel
theorem dL_steps_68 : decode cL_steps 68 = .ok (.lor, 1) := by decide +kernel
theorem dL_steps_69 : decode cL_steps 69 = .ok (.lastore, 1) := by decide +kernel
theorem dL_steps_70 : decode cL_steps 70 = .ok (.aload_n 1, 1) := by decide +kernel
theorem dL_steps_71 : decode cL_steps 71 = .ok (.iconst 4, 1) := by decide +kernel
theorem dL_steps_72 : decode cL_steps 72 = .ok (.iload_n 3, 1) := by decide +kernel
theorem dL_steps_73 : decode cL_steps 73 = .ok (.imul, 1) := by decide +kernel
theorem dL_steps_74 : decode cL_steps 74 = .ok (.iconst 2, 1) := by decide +kernel
theorem dL_steps_75 : decode cL_steps 75 = .ok (.iadd, 1) := by decide +kernel
theorem dL_steps_76 : decode cL_steps 76 = .ok (.dup2, 1) := by decide +kernel
theorem dL_steps_77 : decode cL_steps 77 = .ok (.iaload, 1) := by decide +kernel
theorem dL_steps_78 : decode cL_steps 78 = .ok (.iconst 1, 1) := by decide +kernel
theorem dL_steps_79 : decode cL_steps 79 = .ok (.iadd, 1) := by decide +kernel
theorem dL_steps_80 : decode cL_steps 80 = .ok (.iastore, 1) := by decide +kernel
theorem dL_steps_81 : decode cL_steps 81 = .ok (.aload_n 1, 1) := by decide +kernel
theorem dL_steps_82 : decode cL_steps 82 = .ok (.aload_n 2, 1) := by decide +kernel
theorem dL_steps_83 : decode cL_steps 83 = .ok (.iload_n 3, 1) := by decide +kernel
theorem dL_steps_84 : decode cL_steps 84 = .ok (.aload 5, 2) := by decide +kernel
theorem dL_steps_86 : decode cL_steps 86 = .ok (.invokestatic 22, 3) := by decide +kernel
theorem dL_steps_89 : decode cL_steps 89 = .ok (.aload_n 0, 1) := by decide +kernel
theorem dL_steps_90 : decode cL_steps 90 = .ok (.iconst 1, 1) := by decide +kernel
theorem dL_steps_91 : decode cL_steps 91 = .ok (.iload_n 3, 1) := by decide +kernel
theorem dL_steps_92 : decode cL_steps 92 = .ok (.iload 4, 2) := by decide +kernel
theorem dL_steps_94 : decode cL_steps 94 = .ok (.invokestatic 181, 3) := by decide +kernel
theorem dL_steps_97 : decode cL_steps 97 = .ok (.aload_n 1, 1) := by decide +kernel
theorem dL_steps_98 : decode cL_steps 98 = .ok (.iload_n 3, 1) := by decide +kernel
theorem dL_steps_99 : decode cL_steps 99 = .ok (.aload 5, 2) := by decide +kernel
theorem dL_steps_101 : decode cL_steps 101 = .ok (.invokestatic 26, 3) := by decide +kernel
theorem dL_steps_104 : decode cL_steps 104 = .ok (.ifCond .eq 7, 3) := by decide +kernel
theorem dL_steps_107 : decode cL_steps 107 = .ok (.iconst 1, 1) := by decide +kernel
theorem dL_steps_108 : decode cL_steps 108 = .ok (.goto 4, 3) := by decide +kernel
theorem dL_steps_111 : decode cL_steps 111 = .ok (.iconst 0, 1) := by decide +kernel
theorem dL_steps_112 : decode cL_steps 112 = .ok (.if_icmp .ne 7, 3) := by decide +kernel
theorem dL_steps_115 : decode cL_steps 115 = .ok (.iconst 1, 1) := by decide +kernel
theorem dL_steps_116 : decode cL_steps 116 = .ok (.goto 4, 3) := by decide +kernel
theorem dL_steps_119 : decode cL_steps 119 = .ok (.iconst 0, 1) := by decide +kernel
theorem dL_steps_120 : decode cL_steps 120 = .ok (.ireturn, 1) := by decide +kernel
set_option maxRecDepth 200000 in
theorem ggL_rings_L_low : GoodIn wsL_rings wsL_low := goodIn_r _ [4, 5] rfl (by decide +kernel)
set_option maxRecDepth 200000 in
theorem gL_rings_L_low : GoodIn wsL_rings (va_wsS RL 133 yL_low wsL_low) := goodIn_app (goodIn_of _ (by decide +kernel)) ggL_rings_L_low
set_option maxRecDepth 200000 in
theorem ggL_rings_L_begins : GoodIn wsL_rings wsL_begins := goodIn_ca (goodIn_ca (goodIn_ca (goodIn_r _ [8, 9, 10, 3, 11, 12, 13, 14, 15, 16, 17, 18, 19, 20, 21, 22, 23, 24, 25, 26, 27, 28, 29, 30, 31, 32, 33, 34, 35, 36, 37, 38, 39, 40, 41, 42, 43, 44, 45, 46, 47, 48, 49, 50, 51, 52, 53, 54, 55, 56, 57, 58, 59, 60, 61, 62, 63, 64, 65, 66, 67, 68, 69, 70, 71, 72, 73, 74, 75, 76, 77, 78, 79, 80, 81, 82, 83, 84, 85, 86, 87, 88, 89, 90, 91, 92, 93, 94, 95, 96, 97, 98, 99, 100, 101, 102, 103, 104, 105, 106, 107, 108, 109, 110, 111, 112, 113, 114, 115, 116, 117, 118, 119, 120, 121, 122, 123, 124, 125, 126, 127, 128, 129, 130, 131, 132, 133, 134, 135, 136, 137, 138, 139, 140, 141, 142, 143, 144, 145, 146, 147, 148, 149, 150, 151, 152, 153, 154, 155, 156, 157, 158, 159, 160, 161, 162, 163, 164, 165, 166, 167, 168, 169, 170, 171, 172, 173, 174, 175, 176, 177, 178, 179, 180, 181, 182, 183, 184, 185, 186, 187, 188, 189, 190, 191, 192, 193, 194, 195, 196, 197, 198, 199, 200, 201, 202, 203, 204, 205, 206, 207, 208, 209, 210, 211, 212, 213, 214, 215, 216, 217, 218, 219, 220, 221, 222, 223, 224, 225, 226, 227, 228, 229, 230, 231, 232, 233, 234, 235, 236, 237, 238, 239, 240, 241, 242, 243, 244, 245, 246, 247, 248, 249, 250, 251, 252, 262, 263, 264, 265, 266, 267, 268, 269, 270, 271, 272, 273, 274, 275, 276] rfl (by decide +kernel)) (goodIn_sub (fun _ h => List.mem_cons_of_mem _ (List.mem_append_left _ (List.mem_append_left _ (List.mem_append_right _ h)))) (by decide +kernel))) (goodIn_sub (fun _ h => List.mem_cons_of_mem _ (List.mem_append_left _ (List.mem_append_right _ h))) (by decide +kernel))) (goodIn_sub (fun _ h => List.mem_cons_of_mem _ (List.mem_append_right _ h)) (by decide +kernel))
set_option maxRecDepth 200000 in
theorem gL_rings_L_begins : GoodIn wsL_rings (va_wsS RL 185 yL_begins wsL_begins) := goodIn_app (goodIn_of _ (by decide +kernel)) ggL_rings_L_begins
set_option maxRecDepth 200000 in
theorem ggL_rings_L_steps : GoodIn wsL_rings wsL_steps := goodIn_ca (goodIn_ca (goodIn_ca (goodIn_r _ [255, 12, 256, 257, 3, 258, 13, 14, 15, 16, 17, 18, 19, 20, 21, 22, 23, 24, 259, 260, 261, 9, 10, 11, 25, 26, 27, 28, 29, 30, 31, 32, 33, 34, 35, 36, 37, 38, 39, 40, 41, 42, 43, 44, 45, 46, 47, 48, 49, 50, 51, 52, 53, 54, 55, 56, 57, 58, 59, 60, 61, 62, 63, 64, 65, 66, 67, 68, 69, 70, 71, 72, 73, 74, 75, 76, 77, 78, 79, 80, 81, 82, 83, 84, 85, 86, 87, 88, 89, 90, 91, 92, 93, 94, 95, 96, 97, 98, 99, 100, 101, 102, 103, 104, 105, 106, 107, 108, 109, 110, 111, 112, 113, 114, 115, 116, 117, 118, 119, 120, 121, 122, 123, 124, 125, 126, 127, 128, 129, 130, 131, 132, 133, 134, 135, 136, 137, 138, 139, 140, 141, 142, 143, 144, 145, 146, 147, 148, 149, 150, 151, 152, 153, 154, 155, 156, 157, 158, 159, 160, 161, 162, 163, 164, 165, 166, 167, 168, 169, 170, 171, 172, 173, 174, 175, 176, 177, 178, 179, 180, 181, 182, 183, 184, 185, 186, 187, 188, 189, 190, 191, 192, 193, 194, 195, 196, 197, 198, 199, 200, 201, 202, 203, 204, 205, 206, 207, 208, 209, 210, 211, 212, 213, 214, 215, 216, 217, 218, 219, 220, 221, 222, 223, 224, 225, 226, 227, 228, 229, 230, 231, 232, 233, 234, 235, 236, 237, 238, 239, 240, 241, 242, 243, 244, 245, 246, 247, 248, 249, 250, 251, 252, 262, 263, 264, 265, 266, 267, 268, 269, 270, 271, 272, 273, 274, 275, 276] rfl (by decide +kernel)) (goodIn_sub (fun _ h => List.mem_cons_of_mem _ (List.mem_append_left _ (List.mem_append_left _ (List.mem_append_right _ h)))) (by decide +kernel))) (goodIn_sub (fun _ h => List.mem_cons_of_mem _ (List.mem_append_left _ (List.mem_append_right _ h))) (by decide +kernel))) (goodIn_sub (fun _ h => List.mem_cons_of_mem _ (List.mem_append_right _ h)) (by decide +kernel))
set_option maxRecDepth 200000 in
theorem gL_rings_L_steps : GoodIn wsL_rings (va_wsS RL 189 yL_steps wsL_steps) := goodIn_app (goodIn_of _ (by decide +kernel)) ggL_rings_L_steps
theorem dL_rings_0 : decode cL_rings 0 = .ok (.iconst 1, 1) := by decide +kernel
theorem dL_rings_1 : decode cL_rings 1 = .ok (.iload_n 3, 1) := by decide +kernel
theorem dL_rings_2 : decode cL_rings 2 = .ok (.iconst 4, 1) := by decide +kernel
theorem dL_rings_3 : decode cL_rings 3 = .ok (.ishr, 1) := by decide +kernel
theorem dL_rings_4 : decode cL_rings 4 = .ok (.bipush 9, 2) := by decide +kernel
theorem dL_rings_6 : decode cL_rings 6 = .ok (.invokestatic 133, 3) := by decide +kernel
theorem dL_rings_9 : decode cL_rings 9 = .ok (.iadd, 1) := by decide +kernel
theorem dL_rings_10 : decode cL_rings 10 = .ok (.istore 4, 2) := by decide +kernel
theorem dL_rings_12 : decode cL_rings 12 = .ok (.iconst 1, 1) := by decide +kernel
theorem dL_rings_13 : decode cL_rings 13 = .ok (.iload_n 3, 1) := by decide +kernel
theorem dL_rings_14 : decode cL_rings 14 = .ok (.bipush 9, 2) := by decide +kernel
theorem dL_rings_16 : decode cL_rings 16 = .ok (.ishr, 1) := by decide +kernel
theorem dL_rings_17 : decode cL_rings 17 = .ok (.bipush 6, 2) := by decide +kernel
theorem dL_rings_19 : decode cL_rings 19 = .ok (.invokestatic 133, 3) := by decide +kernel
theorem dL_rings_22 : decode cL_rings 22 = .ok (.iadd, 1) := by decide +kernel
theorem dL_rings_23 : decode cL_rings 23 = .ok (.istore 5, 2) := by decide +kernel
theorem dL_rings_25 : decode cL_rings 25 = .ok (.iload_n 3, 1) := by decide +kernel
theorem dL_rings_26 : decode cL_rings 26 = .ok (.bipush 13, 2) := by decide +kernel
theorem dL_rings_28 : decode cL_rings 28 = .ok (.ishr, 1) := by decide +kernel
theorem dL_rings_29 : decode cL_rings 29 = .ok (.iconst 2, 1) := by decide +kernel
theorem dL_rings_30 : decode cL_rings 30 = .ok (.invokestatic 133, 3) := by decide +kernel
theorem dL_rings_33 : decode cL_rings 33 = .ok (.ifCond .ne 7, 3) := by decide +kernel
theorem dL_rings_36 : decode cL_rings 36 = .ok (.iconst 1, 1) := by decide +kernel
theorem dL_rings_37 : decode cL_rings 37 = .ok (.goto 4, 3) := by decide +kernel
theorem dL_rings_40 : decode cL_rings 40 = .ok (.iconst 0, 1) := by decide +kernel
theorem dL_rings_41 : decode cL_rings 41 = .ok (.istore 6, 2) := by decide +kernel
theorem dL_rings_43 : decode cL_rings 43 = .ok (.aload_n 1, 1) := by decide +kernel
theorem dL_rings_44 : decode cL_rings 44 = .ok (.bipush 32, 2) := by decide +kernel
theorem dL_rings_46 : decode cL_rings 46 = .ok (.iaload, 1) := by decide +kernel
theorem dL_rings_47 : decode cL_rings 47 = .ok (.istore 7, 2) := by decide +kernel
theorem dL_rings_49 : decode cL_rings 49 = .ok (.aload_n 0, 1) := by decide +kernel
theorem dL_rings_50 : decode cL_rings 50 = .ok (.aload_n 1, 1) := by decide +kernel
theorem dL_rings_51 : decode cL_rings 51 = .ok (.aload_n 2, 1) := by decide +kernel
theorem dL_rings_52 : decode cL_rings 52 = .ok (.iload_n 3, 1) := by decide +kernel
theorem dL_rings_53 : decode cL_rings 53 = .ok (.iconst 3, 1) := by decide +kernel
theorem dL_rings_54 : decode cL_rings 54 = .ok (.ishr, 1) := by decide +kernel
theorem dL_rings_55 : decode cL_rings 55 = .ok (.bipush 30, 2) := by decide +kernel
theorem dL_rings_57 : decode cL_rings 57 = .ok (.invokestatic 133, 3) := by decide +kernel
theorem dL_rings_60 : decode cL_rings 60 = .ok (.iload_n 3, 1) := by decide +kernel
theorem dL_rings_61 : decode cL_rings 61 = .ok (.iconst 2, 1) := by decide +kernel
theorem dL_rings_62 : decode cL_rings 62 = .ok (.ishr, 1) := by decide +kernel
theorem dL_rings_63 : decode cL_rings 63 = .ok (.sipush 384, 3) := by decide +kernel
theorem dL_rings_66 : decode cL_rings 66 = .ok (.invokestatic 133, 3) := by decide +kernel
theorem dL_rings_69 : decode cL_rings 69 = .ok (.invokestatic 185, 3) := by decide +kernel
theorem dL_rings_72 : decode cL_rings 72 = .ok (.istore 8, 2) := by decide +kernel
theorem dL_rings_74 : decode cL_rings 74 = .ok (.iconst 0, 1) := by decide +kernel
theorem dL_rings_75 : decode cL_rings 75 = .ok (.istore 9, 2) := by decide +kernel
theorem dL_rings_77 : decode cL_rings 77 = .ok (.iload 9, 2) := by decide +kernel
theorem dL_rings_79 : decode cL_rings 79 = .ok (.iconst 4, 1) := by decide +kernel
theorem dL_rings_80 : decode cL_rings 80 = .ok (.if_icmp .ge 108, 3) := by decide +kernel
theorem dL_rings_83 : decode cL_rings 83 = .ok (.iload 8, 2) := by decide +kernel
theorem dL_rings_85 : decode cL_rings 85 = .ok (.ifCond .eq 103, 3) := by decide +kernel
theorem dL_rings_88 : decode cL_rings 88 = .ok (.iload 7, 2) := by decide +kernel
theorem dL_rings_90 : decode cL_rings 90 = .ok (.aload_n 1, 1) := by decide +kernel
theorem dL_rings_91 : decode cL_rings 91 = .ok (.bipush 32, 2) := by decide +kernel
theorem dL_rings_93 : decode cL_rings 93 = .ok (.iaload, 1) := by decide +kernel
theorem dL_rings_94 : decode cL_rings 94 = .ok (.if_icmp .ge 94, 3) := by decide +kernel
theorem dL_rings_97 : decode cL_rings 97 = .ok (.iload 9, 2) := by decide +kernel
theorem dL_rings_99 : decode cL_rings 99 = .ok (.iconst 2, 1) := by decide +kernel
theorem dL_rings_100 : decode cL_rings 100 = .ok (.irem, 1) := by decide +kernel
theorem dL_rings_101 : decode cL_rings 101 = .ok (.ifCond .ne 8, 3) := by decide +kernel
theorem dL_rings_104 : decode cL_rings 104 = .ok (.iload 4, 2) := by decide +kernel
theorem dL_rings_106 : decode cL_rings 106 = .ok (.goto 5, 3) := by decide +kernel
theorem dL_rings_109 : decode cL_rings 109 = .ok (.iload 5, 2) := by decide +kernel
theorem dL_rings_111 : decode cL_rings 111 = .ok (.istore 10, 2) := by decide +kernel
theorem dL_rings_113 : decode cL_rings 113 = .ok (.iconst 0, 1) := by decide +kernel
theorem dL_rings_114 : decode cL_rings 114 = .ok (.istore 11, 2) := by decide +kernel
theorem dL_rings_116 : decode cL_rings 116 = .ok (.iload 11, 2) := by decide +kernel
theorem dL_rings_118 : decode cL_rings 118 = .ok (.iload 10, 2) := by decide +kernel
theorem dL_rings_120 : decode cL_rings 120 = .ok (.if_icmp .ge 28, 3) := by decide +kernel
theorem dL_rings_123 : decode cL_rings 123 = .ok (.iload 8, 2) := by decide +kernel
theorem dL_rings_125 : decode cL_rings 125 = .ok (.ifCond .eq 23, 3) := by decide +kernel
theorem dL_rings_128 : decode cL_rings 128 = .ok (.aload_n 0, 1) := by decide +kernel
theorem dL_rings_129 : decode cL_rings 129 = .ok (.aload_n 1, 1) := by decide +kernel
theorem dL_rings_130 : decode cL_rings 130 = .ok (.aload_n 2, 1) := by decide +kernel
theorem dL_rings_131 : decode cL_rings 131 = .ok (.iload 7, 2) := by decide +kernel
theorem dL_rings_133 : decode cL_rings 133 = .ok (.iconst 2, 1) := by decide +kernel
theorem dL_rings_134 : decode cL_rings 134 = .ok (.iload 9, 2) := by decide +kernel
theorem dL_rings_136 : decode cL_rings 136 = .ok (.imul, 1) := by decide +kernel
theorem dL_rings_137 : decode cL_rings 137 = .ok (.invokestatic 189, 3) := by decide +kernel
theorem dL_rings_140 : decode cL_rings 140 = .ok (.istore 8, 2) := by decide +kernel
theorem dL_rings_142 : decode cL_rings 142 = .ok (.iinc 11 1, 3) := by decide +kernel
theorem dL_rings_145 : decode cL_rings 145 = .ok (.goto (-29), 3) := by decide +kernel
theorem dL_rings_148 : decode cL_rings 148 = .ok (.iload 8, 2) := by decide +kernel
theorem dL_rings_150 : decode cL_rings 150 = .ok (.ifCond .eq 29, 3) := by decide +kernel
theorem dL_rings_153 : decode cL_rings 153 = .ok (.iload 6, 2) := by decide +kernel
theorem dL_rings_155 : decode cL_rings 155 = .ok (.ifCond .eq 20, 3) := by decide +kernel
theorem dL_rings_158 : decode cL_rings 158 = .ok (.aload_n 0, 1) := by decide +kernel
theorem dL_rings_159 : decode cL_rings 159 = .ok (.aload_n 1, 1) := by decide +kernel
theorem dL_rings_160 : decode cL_rings 160 = .ok (.aload_n 2, 1) := by decide +kernel
theorem dL_rings_161 : decode cL_rings 161 = .ok (.iload 7, 2) := by decide +kernel
theorem dL_rings_163 : decode cL_rings 163 = .ok (.iconst 2, 1) := by decide +kernel
theorem dL_rings_164 : decode cL_rings 164 = .ok (.iload 9, 2) := by decide +kernel
theorem dL_rings_166 : decode cL_rings 166 = .ok (.imul, 1) := by decide +kernel
theorem dL_rings_167 : decode cL_rings 167 = .ok (.iconst 1, 1) := by decide +kernel
theorem dL_rings_168 : decode cL_rings 168 = .ok (.iadd, 1) := by decide +kernel
theorem dL_rings_169 : decode cL_rings 169 = .ok (.invokestatic 189, 3) := by decide +kernel
theorem dL_rings_172 : decode cL_rings 172 = .ok (.ifCond .eq 7, 3) := by decide +kernel
theorem dL_rings_175 : decode cL_rings 175 = .ok (.iconst 1, 1) := by decide +kernel
theorem dL_rings_176 : decode cL_rings 176 = .ok (.goto 4, 3) := by decide +kernel
theorem dL_rings_179 : decode cL_rings 179 = .ok (.iconst 0, 1) := by decide +kernel
theorem dL_rings_180 : decode cL_rings 180 = .ok (.istore 8, 2) := by decide +kernel
theorem dL_rings_182 : decode cL_rings 182 = .ok (.iinc 9 1, 3) := by decide +kernel
theorem dL_rings_185 : decode cL_rings 185 = .ok (.goto (-108), 3) := by decide +kernel
theorem dL_rings_188 : decode cL_rings 188 = .ok (.iload 8, 2) := by decide +kernel
theorem dL_rings_190 : decode cL_rings 190 = .ok (.ireturn, 1) := by decide +kernel
theorem dL_wipes_0 : decode cL_wipes 0 = .ok (.iload_n 2, 1) := by decide +kernel
theorem dL_wipes_1 : decode cL_wipes 1 = .ok (.istore_n 3, 1) := by decide +kernel
theorem dL_wipes_2 : decode cL_wipes 2 = .ok (.iload_n 3, 1) := by decide +kernel
theorem dL_wipes_3 : decode cL_wipes 3 = .ok (.bipush 7, 2) := by decide +kernel
theorem dL_wipes_5 : decode cL_wipes 5 = .ok (.if_icmp .ge 64, 3) := by decide +kernel
theorem dL_wipes_8 : decode cL_wipes 8 = .ok (.iconst 0, 1) := by decide +kernel
theorem dL_wipes_9 : decode cL_wipes 9 = .ok (.istore 4, 2) := by decide +kernel
theorem dL_wipes_11 : decode cL_wipes 11 = .ok (.iload 4, 2) := by decide +kernel
theorem dL_wipes_13 : decode cL_wipes 13 = .ok (.iconst 4, 1) := by decide +kernel
theorem dL_wipes_14 : decode cL_wipes 14 = .ok (.if_icmp .ge 49, 3) := by decide +kernel
theorem dL_wipes_17 : decode cL_wipes 17 = .ok (.aload_n 0, 1) := by decide +kernel
theorem dL_wipes_18 : decode cL_wipes 18 = .ok (.iconst 4, 1) := by decide +kernel
theorem dL_wipes_19 : decode cL_wipes 19 = .ok (.iload_n 3, 1) := by decide +kernel
theorem dL_wipes_20 : decode cL_wipes 20 = .ok (.imul, 1) := by decide +kernel
theorem dL_wipes_21 : decode cL_wipes 21 = .ok (.iload 4, 2) := by decide +kernel
theorem dL_wipes_23 : decode cL_wipes 23 = .ok (.iadd, 1) := by decide +kernel
theorem dL_wipes_24 : decode cL_wipes 24 = .ok (.aload_n 0, 1) := by decide +kernel
theorem dL_wipes_25 : decode cL_wipes 25 = .ok (.iconst 4, 1) := by decide +kernel
theorem dL_wipes_26 : decode cL_wipes 26 = .ok (.iload_n 3, 1) := by decide +kernel
theorem dL_wipes_27 : decode cL_wipes 27 = .ok (.imul, 1) := by decide +kernel
theorem dL_wipes_28 : decode cL_wipes 28 = .ok (.iconst 4, 1) := by decide +kernel
theorem dL_wipes_29 : decode cL_wipes 29 = .ok (.iadd, 1) := by decide +kernel
theorem dL_wipes_30 : decode cL_wipes 30 = .ok (.iload 4, 2) := by decide +kernel
theorem dL_wipes_32 : decode cL_wipes 32 = .ok (.iadd, 1) := by decide +kernel
theorem dL_wipes_33 : decode cL_wipes 33 = .ok (.iaload, 1) := by decide +kernel
theorem dL_wipes_34 : decode cL_wipes 34 = .ok (.iastore, 1) := by decide +kernel
theorem dL_wipes_35 : decode cL_wipes 35 = .ok (.aload_n 1, 1) := by decide +kernel
theorem dL_wipes_36 : decode cL_wipes 36 = .ok (.iconst 3, 1) := by decide +kernel
theorem dL_wipes_37 : decode cL_wipes 37 = .ok (.iload_n 3, 1) := by decide +kernel
theorem dL_wipes_38 : decode cL_wipes 38 = .ok (.imul, 1) := by decide +kernel
theorem dL_wipes_39 : decode cL_wipes 39 = .ok (.iload 4, 2) := by decide +kernel
theorem dL_wipes_41 : decode cL_wipes 41 = .ok (.iconst 3, 1) := by decide +kernel
theorem dL_wipes_42 : decode cL_wipes 42 = .ok (.irem, 1) := by decide +kernel
theorem dL_wipes_43 : decode cL_wipes 43 = .ok (.iadd, 1) := by decide +kernel
theorem dL_wipes_44 : decode cL_wipes 44 = .ok (.aload_n 1, 1) := by decide +kernel
theorem dL_wipes_45 : decode cL_wipes 45 = .ok (.iconst 3, 1) := by decide +kernel
theorem dL_wipes_46 : decode cL_wipes 46 = .ok (.iload_n 3, 1) := by decide +kernel
theorem dL_wipes_47 : decode cL_wipes 47 = .ok (.imul, 1) := by decide +kernel
theorem dL_wipes_48 : decode cL_wipes 48 = .ok (.iconst 3, 1) := by decide +kernel
theorem dL_wipes_49 : decode cL_wipes 49 = .ok (.iadd, 1) := by decide +kernel
theorem dL_wipes_50 : decode cL_wipes 50 = .ok (.iload 4, 2) := by decide +kernel
theorem dL_wipes_52 : decode cL_wipes 52 = .ok (.iconst 3, 1) := by decide +kernel
theorem dL_wipes_53 : decode cL_wipes 53 = .ok (.irem, 1) := by decide +kernel
theorem dL_wipes_54 : decode cL_wipes 54 = .ok (.iadd, 1) := by decide +kernel
theorem dL_wipes_55 : decode cL_wipes 55 = .ok (.laload, 1) := by decide +kernel
theorem dL_wipes_56 : decode cL_wipes 56 = .ok (.lastore, 1) := by decide +kernel
theorem dL_wipes_57 : decode cL_wipes 57 = .ok (.iinc 4 1, 3) := by decide +kernel
theorem dL_wipes_60 : decode cL_wipes 60 = .ok (.goto (-49), 3) := by decide +kernel
theorem dL_wipes_63 : decode cL_wipes 63 = .ok (.iinc 3 1, 3) := by decide +kernel
theorem dL_wipes_66 : decode cL_wipes 66 = .ok (.goto (-64), 3) := by decide +kernel
theorem dL_wipes_69 : decode cL_wipes 69 = .ok (.aload_n 0, 1) := by decide +kernel
theorem dL_wipes_70 : decode cL_wipes 70 = .ok (.bipush 32, 2) := by decide +kernel
theorem dL_wipes_72 : decode cL_wipes 72 = .ok (.dup2, 1) := by decide +kernel
theorem dL_wipes_73 : decode cL_wipes 73 = .ok (.iaload, 1) := by decide +kernel
theorem dL_wipes_74 : decode cL_wipes 74 = .ok (.iconst 1, 1) := by decide +kernel
theorem dL_wipes_75 : decode cL_wipes 75 = .ok (.isub, 1) := by decide +kernel
theorem dL_wipes_76 : decode cL_wipes 76 = .ok (.iastore, 1) := by decide +kernel
theorem dL_wipes_77 : decode cL_wipes 77 = .ok (.return_, 1) := by decide +kernel
set_option maxRecDepth 200000 in
theorem ggL_labels_L_walks : GoodIn wsL_labels wsL_walks := goodIn_r _ [5, 6, 7, 4, 8, 9, 10, 11, 12, 13, 14] rfl (by decide +kernel)
set_option maxRecDepth 200000 in
theorem gL_labels_L_walks : GoodIn wsL_labels (va_wsS RL 22 yL_walks wsL_walks) := goodIn_app (goodIn_of _ (by decide +kernel)) ggL_labels_L_walks
set_option maxRecDepth 200000 in
theorem ggL_labels_L_low : GoodIn wsL_labels wsL_low := goodIn_r _ [17, 18] rfl (by decide +kernel)
set_option maxRecDepth 200000 in
theorem gL_labels_L_low : GoodIn wsL_labels (va_wsS RL 133 yL_low wsL_low) := goodIn_app (goodIn_of _ (by decide +kernel)) ggL_labels_L_low
set_option maxRecDepth 200000 in
theorem ggL_labels_L_against : GoodIn wsL_labels wsL_against := goodIn_r _ [21, 22, 23, 4, 24, 25, 26, 27, 28, 29, 30, 31, 32, 33, 6, 7, 8, 34, 35, 36, 37, 38, 39, 1, 2, 3, 5, 9, 10, 11, 12, 13, 14, 40, 41, 42] rfl (by decide +kernel)
set_option maxRecDepth 200000 in
theorem gL_labels_L_against : GoodIn wsL_labels (va_wsS RL 56 yL_against wsL_against) := goodIn_app (goodIn_of _ (by decide +kernel)) ggL_labels_L_against
set_option maxRecDepth 200000 in
theorem ggL_labels_L_told : GoodIn wsL_labels wsL_told := goodIn_ca (goodIn_ca (goodIn_ca (goodIn_r _ [45, 46, 47, 48, 49, 50, 51, 52, 53, 54, 55, 56, 57, 58, 59, 60, 61, 62, 63, 64, 65, 66, 67, 68, 69, 70, 71, 72, 73, 74, 75, 76, 77, 78, 79, 80, 81, 82, 83, 84, 85, 86, 87, 88, 89, 90, 91, 92, 93, 94, 95, 96, 97, 98, 99, 100, 101, 102, 103, 104, 105, 106, 107, 108, 109, 110, 111, 112, 113, 114, 115, 116, 117, 118, 119, 120, 121, 122, 123, 124, 125, 126, 127, 128, 129, 130, 131, 132, 133, 134, 135, 136, 137, 138, 139, 140, 141, 142, 143, 144, 145, 146, 147, 148, 149, 150, 151, 152, 153, 154, 155, 156, 157, 158, 159, 160, 161, 162, 163, 164, 165, 166, 167, 168, 169, 170, 171, 172, 173, 174, 175, 176, 177, 178, 179, 180, 181, 182, 183, 184, 185, 186, 187, 188, 189, 190, 191, 192, 193, 194, 195, 196, 197, 198, 199, 200, 201, 202, 203, 204, 205, 206, 207, 208, 209, 210, 211, 212, 213, 214, 215, 216, 217, 218, 219, 220, 221, 222, 223, 224, 225, 226, 227, 228, 229, 230, 231, 232, 233, 234, 235, 236, 237, 238, 239, 240, 241, 242, 243, 244, 245, 246, 247, 248, 249, 250, 251, 252, 253, 254, 255, 256, 257, 258, 259, 260, 261, 262, 263, 264, 265, 266, 267, 268, 269, 270, 274, 275, 276, 277, 278, 279, 280, 281, 282, 283, 284, 285, 286, 287, 288] rfl (by decide +kernel)) (goodIn_sub (fun _ h => List.mem_cons_of_mem _ (List.mem_append_left _ (List.mem_append_left _ (List.mem_append_right _ h)))) (by decide +kernel))) (goodIn_sub (fun _ h => List.mem_cons_of_mem _ (List.mem_append_left _ (List.mem_append_right _ h))) (by decide +kernel))) (goodIn_sub (fun _ h => List.mem_cons_of_mem _ (List.mem_append_right _ h)) (by decide +kernel))
set_option maxRecDepth 200000 in
theorem gL_labels_L_told : GoodIn wsL_labels (va_wsS RL 181 yL_told wsL_told) := goodIn_app (goodIn_of _ (by decide +kernel)) ggL_labels_L_told
set_option maxRecDepth 200000 in
theorem ggL_labels_L_bends : GoodIn wsL_labels wsL_bends := goodIn_r _ [24, 25, 26, 4, 27, 28, 29, 30, 31, 32, 33, 6, 7, 8] rfl (by decide +kernel)
set_option maxRecDepth 200000 in
theorem gL_labels_L_bends : GoodIn wsL_labels (va_wsS RL 50 yL_bends wsL_bends) := goodIn_app (goodIn_of _ (by decide +kernel)) ggL_labels_L_bends
set_option maxRecDepth 200000 in
theorem ggL_labels_L_best : GoodIn wsL_labels wsL_best := goodIn_r _ [273, 1, 2, 3, 4, 5, 6, 7, 8, 9, 10, 11, 12, 13, 14, 19, 20, 21, 22, 23, 24, 25, 26, 27, 28, 29, 30, 31, 32, 33, 34, 35, 36, 37, 38, 39, 40, 41, 42] rfl (by decide +kernel)
set_option maxRecDepth 200000 in
theorem gL_labels_L_best : GoodIn wsL_labels (va_wsS RL 104 yL_best wsL_best) := goodIn_app (goodIn_of _ (by decide +kernel)) ggL_labels_L_best
theorem dL_labels_0 : decode cL_labels 0 = .ok (.bipush 61, 2) := by decide +kernel
theorem dL_labels_2 : decode cL_labels 2 = .ok (.newarray .int, 2) := by decide +kernel
theorem dL_labels_4 : decode cL_labels 4 = .ok (.astore 6, 2) := by decide +kernel
theorem dL_labels_6 : decode cL_labels 6 = .ok (.aload_n 1, 1) := by decide +kernel
theorem dL_labels_7 : decode cL_labels 7 = .ok (.aload_n 2, 1) := by decide +kernel
theorem dL_labels_8 : decode cL_labels 8 = .ok (.iload_n 3, 1) := by decide +kernel
theorem dL_labels_9 : decode cL_labels 9 = .ok (.aload 6, 2) := by decide +kernel
theorem dL_labels_11 : decode cL_labels 11 = .ok (.invokestatic 22, 3) := by decide +kernel
theorem dL_labels_14 : decode cL_labels 14 = .ok (.aload_n 1, 1) := by decide +kernel
theorem dL_labels_15 : decode cL_labels 15 = .ok (.iconst 4, 1) := by decide +kernel
theorem dL_labels_16 : decode cL_labels 16 = .ok (.iload_n 3, 1) := by decide +kernel
theorem dL_labels_17 : decode cL_labels 17 = .ok (.imul, 1) := by decide +kernel
theorem dL_labels_18 : decode cL_labels 18 = .ok (.iconst 3, 1) := by decide +kernel
theorem dL_labels_19 : decode cL_labels 19 = .ok (.iadd, 1) := by decide +kernel
theorem dL_labels_20 : decode cL_labels 20 = .ok (.iaload, 1) := by decide +kernel
theorem dL_labels_21 : decode cL_labels 21 = .ok (.istore 7, 2) := by decide +kernel
theorem dL_labels_23 : decode cL_labels 23 = .ok (.iload 4, 2) := by decide +kernel
theorem dL_labels_25 : decode cL_labels 25 = .ok (.ifCond .ne 97, 3) := by decide +kernel
theorem dL_labels_28 : decode cL_labels 28 = .ok (.iload 5, 2) := by decide +kernel
theorem dL_labels_30 : decode cL_labels 30 = .ok (.iconst 5, 1) := by decide +kernel
theorem dL_labels_31 : decode cL_labels 31 = .ok (.ishr, 1) := by decide +kernel
theorem dL_labels_32 : decode cL_labels 32 = .ok (.aload_n 1, 1) := by decide +kernel
theorem dL_labels_33 : decode cL_labels 33 = .ok (.iconst 4, 1) := by decide +kernel
theorem dL_labels_34 : decode cL_labels 34 = .ok (.iload_n 3, 1) := by decide +kernel
theorem dL_labels_35 : decode cL_labels 35 = .ok (.imul, 1) := by decide +kernel
theorem dL_labels_36 : decode cL_labels 36 = .ok (.iconst 2, 1) := by decide +kernel
theorem dL_labels_37 : decode cL_labels 37 = .ok (.iadd, 1) := by decide +kernel
theorem dL_labels_38 : decode cL_labels 38 = .ok (.iaload, 1) := by decide +kernel
theorem dL_labels_39 : decode cL_labels 39 = .ok (.iconst 1, 1) := by decide +kernel
theorem dL_labels_40 : decode cL_labels 40 = .ok (.iadd, 1) := by decide +kernel
theorem dL_labels_41 : decode cL_labels 41 = .ok (.invokestatic 133, 3) := by decide +kernel
theorem dL_labels_44 : decode cL_labels 44 = .ok (.istore 8, 2) := by decide +kernel
theorem dL_labels_46 : decode cL_labels 46 = .ok (.aload_n 1, 1) := by decide +kernel
theorem dL_labels_47 : decode cL_labels 47 = .ok (.aload_n 2, 1) := by decide +kernel
theorem dL_labels_48 : decode cL_labels 48 = .ok (.iload_n 3, 1) := by decide +kernel
theorem dL_labels_49 : decode cL_labels 49 = .ok (.aload 6, 2) := by decide +kernel
theorem dL_labels_51 : decode cL_labels 51 = .ok (.iload 8, 2) := by decide +kernel
theorem dL_labels_53 : decode cL_labels 53 = .ok (.invokestatic 56, 3) := by decide +kernel
theorem dL_labels_56 : decode cL_labels 56 = .ok (.ifCond .ne 7, 3) := by decide +kernel
theorem dL_labels_59 : decode cL_labels 59 = .ok (.iconst 1, 1) := by decide +kernel
theorem dL_labels_60 : decode cL_labels 60 = .ok (.goto 4, 3) := by decide +kernel
theorem dL_labels_63 : decode cL_labels 63 = .ok (.iconst 0, 1) := by decide +kernel
theorem dL_labels_64 : decode cL_labels 64 = .ok (.istore 9, 2) := by decide +kernel
theorem dL_labels_66 : decode cL_labels 66 = .ok (.aload_n 1, 1) := by decide +kernel
theorem dL_labels_67 : decode cL_labels 67 = .ok (.iconst 4, 1) := by decide +kernel
theorem dL_labels_68 : decode cL_labels 68 = .ok (.iload_n 3, 1) := by decide +kernel
theorem dL_labels_69 : decode cL_labels 69 = .ok (.imul, 1) := by decide +kernel
theorem dL_labels_70 : decode cL_labels 70 = .ok (.iconst 3, 1) := by decide +kernel
theorem dL_labels_71 : decode cL_labels 71 = .ok (.iadd, 1) := by decide +kernel
theorem dL_labels_72 : decode cL_labels 72 = .ok (.iload 9, 2) := by decide +kernel
theorem dL_labels_74 : decode cL_labels 74 = .ok (.ifCond .eq 8, 3) := by decide +kernel
theorem dL_labels_77 : decode cL_labels 77 = .ok (.iload 8, 2) := by decide +kernel
theorem dL_labels_79 : decode cL_labels 79 = .ok (.goto 5, 3) := by decide +kernel
theorem dL_labels_82 : decode cL_labels 82 = .ok (.iload 7, 2) := by decide +kernel
theorem dL_labels_84 : decode cL_labels 84 = .ok (.iastore, 1) := by decide +kernel
theorem dL_labels_85 : decode cL_labels 85 = .ok (.aload_n 0, 1) := by decide +kernel
theorem dL_labels_86 : decode cL_labels 86 = .ok (.iconst 2, 1) := by decide +kernel
theorem dL_labels_87 : decode cL_labels 87 = .ok (.iload_n 3, 1) := by decide +kernel
theorem dL_labels_88 : decode cL_labels 88 = .ok (.iload 8, 2) := by decide +kernel
theorem dL_labels_90 : decode cL_labels 90 = .ok (.invokestatic 181, 3) := by decide +kernel
theorem dL_labels_93 : decode cL_labels 93 = .ok (.iload 9, 2) := by decide +kernel
theorem dL_labels_95 : decode cL_labels 95 = .ok (.ifCond .eq 16, 3) := by decide +kernel
theorem dL_labels_98 : decode cL_labels 98 = .ok (.aload_n 1, 1) := by decide +kernel
theorem dL_labels_99 : decode cL_labels 99 = .ok (.aload_n 2, 1) := by decide +kernel
theorem dL_labels_100 : decode cL_labels 100 = .ok (.iload_n 3, 1) := by decide +kernel
theorem dL_labels_101 : decode cL_labels 101 = .ok (.aload 6, 2) := by decide +kernel
theorem dL_labels_103 : decode cL_labels 103 = .ok (.iload 8, 2) := by decide +kernel
theorem dL_labels_105 : decode cL_labels 105 = .ok (.invokestatic 50, 3) := by decide +kernel
theorem dL_labels_108 : decode cL_labels 108 = .ok (.goto 5, 3) := by decide +kernel
theorem dL_labels_111 : decode cL_labels 111 = .ok (.bipush (-13), 2) := by decide +kernel
theorem dL_labels_113 : decode cL_labels 113 = .ok (.if_icmp .ne 7, 3) := by decide +kernel
theorem dL_labels_116 : decode cL_labels 116 = .ok (.iconst 1, 1) := by decide +kernel
theorem dL_labels_117 : decode cL_labels 117 = .ok (.goto 4, 3) := by decide +kernel
theorem dL_labels_120 : decode cL_labels 120 = .ok (.iconst 0, 1) := by decide +kernel
theorem dL_labels_121 : decode cL_labels 121 = .ok (.ireturn, 1) := by decide +kernel
theorem dL_labels_122 : decode cL_labels 122 = .ok (.iload 4, 2) := by decide +kernel
theorem dL_labels_124 : decode cL_labels 124 = .ok (.iconst 1, 1) := by decide +kernel
theorem dL_labels_125 : decode cL_labels 125 = .ok (.if_icmp .ne 39, 3) := by decide +kernel
theorem dL_labels_128 : decode cL_labels 128 = .ok (.aload_n 1, 1) := by decide +kernel
theorem dL_labels_129 : decode cL_labels 129 = .ok (.iconst 4, 1) := by decide +kernel
theorem dL_labels_130 : decode cL_labels 130 = .ok (.iload_n 3, 1) := by decide +kernel
theorem dL_labels_131 : decode cL_labels 131 = .ok (.imul, 1) := by decide +kernel
theorem dL_labels_132 : decode cL_labels 132 = .ok (.iconst 3, 1) := by decide +kernel
theorem dL_labels_133 : decode cL_labels 133 = .ok (.iadd, 1) := by decide +kernel
theorem dL_labels_134 : decode cL_labels 134 = .ok (.iconst (-1), 1) := by decide +kernel
theorem dL_labels_135 : decode cL_labels 135 = .ok (.iastore, 1) := by decide +kernel
theorem dL_labels_136 : decode cL_labels 136 = .ok (.aload_n 0, 1) := by decide +kernel
theorem dL_labels_137 : decode cL_labels 137 = .ok (.iconst 3, 1) := by decide +kernel
theorem dL_labels_138 : decode cL_labels 138 = .ok (.iload_n 3, 1) := by decide +kernel
theorem dL_labels_139 : decode cL_labels 139 = .ok (.iconst 0, 1) := by decide +kernel
theorem dL_labels_140 : decode cL_labels 140 = .ok (.invokestatic 181, 3) := by decide +kernel
theorem dL_labels_143 : decode cL_labels 143 = .ok (.iload 7, 2) := by decide +kernel
theorem dL_labels_145 : decode cL_labels 145 = .ok (.ifCond .ge 8, 3) := by decide +kernel
theorem dL_labels_148 : decode cL_labels 148 = .ok (.bipush (-13), 2) := by decide +kernel
theorem dL_labels_150 : decode cL_labels 150 = .ok (.goto 5, 3) := by decide +kernel
theorem dL_labels_153 : decode cL_labels 153 = .ok (.iload 7, 2) := by decide +kernel
theorem dL_labels_155 : decode cL_labels 155 = .ok (.if_icmp .ne 7, 3) := by decide +kernel
theorem dL_labels_158 : decode cL_labels 158 = .ok (.iconst 1, 1) := by decide +kernel
theorem dL_labels_159 : decode cL_labels 159 = .ok (.goto 4, 3) := by decide +kernel
theorem dL_labels_162 : decode cL_labels 162 = .ok (.iconst 0, 1) := by decide +kernel
theorem dL_labels_163 : decode cL_labels 163 = .ok (.ireturn, 1) := by decide +kernel
theorem dL_labels_164 : decode cL_labels 164 = .ok (.aload_n 1, 1) := by decide +kernel
theorem dL_labels_165 : decode cL_labels 165 = .ok (.aload_n 2, 1) := by decide +kernel
theorem dL_labels_166 : decode cL_labels 166 = .ok (.iload_n 3, 1) := by decide +kernel
theorem dL_labels_167 : decode cL_labels 167 = .ok (.invokestatic 104, 3) := by decide +kernel
theorem dL_labels_170 : decode cL_labels 170 = .ok (.istore 8, 2) := by decide +kernel
theorem dL_labels_172 : decode cL_labels 172 = .ok (.aload_n 1, 1) := by decide +kernel
theorem dL_labels_173 : decode cL_labels 173 = .ok (.iconst 4, 1) := by decide +kernel
theorem dL_labels_174 : decode cL_labels 174 = .ok (.iload_n 3, 1) := by decide +kernel
theorem dL_labels_175 : decode cL_labels 175 = .ok (.imul, 1) := by decide +kernel
theorem dL_labels_176 : decode cL_labels 176 = .ok (.iconst 3, 1) := by decide +kernel
theorem dL_labels_177 : decode cL_labels 177 = .ok (.iadd, 1) := by decide +kernel
theorem dL_labels_178 : decode cL_labels 178 = .ok (.iload 8, 2) := by decide +kernel
theorem dL_labels_180 : decode cL_labels 180 = .ok (.ifCond .ge 8, 3) := by decide +kernel
theorem dL_labels_183 : decode cL_labels 183 = .ok (.iload 7, 2) := by decide +kernel
theorem dL_labels_185 : decode cL_labels 185 = .ok (.goto 5, 3) := by decide +kernel
theorem dL_labels_188 : decode cL_labels 188 = .ok (.iload 8, 2) := by decide +kernel
theorem dL_labels_190 : decode cL_labels 190 = .ok (.iastore, 1) := by decide +kernel
theorem dL_labels_191 : decode cL_labels 191 = .ok (.aload_n 0, 1) := by decide +kernel
theorem dL_labels_192 : decode cL_labels 192 = .ok (.iconst 4, 1) := by decide +kernel
theorem dL_labels_193 : decode cL_labels 193 = .ok (.iload_n 3, 1) := by decide +kernel
theorem dL_labels_194 : decode cL_labels 194 = .ok (.iconst 0, 1) := by decide +kernel
theorem dL_labels_195 : decode cL_labels 195 = .ok (.invokestatic 181, 3) := by decide +kernel
theorem dL_labels_198 : decode cL_labels 198 = .ok (.iload 8, 2) := by decide +kernel
theorem dL_labels_200 : decode cL_labels 200 = .ok (.ifCond .ge 8, 3) := by decide +kernel
theorem dL_labels_203 : decode cL_labels 203 = .ok (.bipush (-13), 2) := by decide +kernel
theorem dL_labels_205 : decode cL_labels 205 = .ok (.goto 5, 3) := by decide +kernel
theorem dL_labels_208 : decode cL_labels 208 = .ok (.iload 8, 2) := by decide +kernel
theorem dL_labels_210 : decode cL_labels 210 = .ok (.if_icmp .ne 7, 3) := by decide +kernel
theorem dL_labels_213 : decode cL_labels 213 = .ok (.iconst 1, 1) := by decide +kernel
theorem dL_labels_214 : decode cL_labels 214 = .ok (.goto 4, 3) := by decide +kernel
theorem dL_labels_217 : decode cL_labels 217 = .ok (.iconst 0, 1) := by decide +kernel
theorem dL_labels_218 : decode cL_labels 218 = .ok (.ireturn, 1) := by decide +kernel
set_option maxRecDepth 200000 in
theorem ggL_labelsAll_L_best : GoodIn wsL_labelsAll wsL_best := goodIn_r _ [4, 5, 6, 7, 3, 8, 9, 10, 11, 12, 13, 14, 15, 16, 17, 18, 19, 20, 21, 22, 23, 24, 25, 26, 27, 28, 29, 30, 31, 32, 33, 34, 35, 36, 37, 38, 39, 40, 41] rfl (by decide +kernel)
set_option maxRecDepth 200000 in
theorem gL_labelsAll_L_best : GoodIn wsL_labelsAll (va_wsS RL 104 yL_best wsL_best) := goodIn_app (goodIn_of _ (by decide +kernel)) ggL_labelsAll_L_best
set_option maxRecDepth 200000 in
theorem ggL_labelsAll_X6_labelAll : GoodIn wsL_labelsAll wsX6_labelAll := goodIn_r _ [46, 47, 48, 49, 50, 51, 52, 53, 54, 55, 56, 57, 58, 59, 60, 61, 62, 63, 64, 65, 66, 67, 68, 69, 70, 71, 72, 73, 74, 75, 76, 77, 78, 79, 80, 81, 82, 83, 84, 85, 86, 87, 88, 89, 90, 91, 92, 93, 94, 95, 96, 97, 98, 99, 100, 101, 102, 103, 104, 105, 106, 107, 108, 109, 110, 111, 112, 113, 114, 115, 116, 117, 118, 119, 120, 121, 122, 123, 124, 125, 126, 127, 128, 129, 130, 131, 132, 133, 134, 135, 136, 137, 138, 139, 140, 141, 142, 143, 144, 145, 146, 147, 148, 149, 150, 151, 152, 153, 154, 155, 156, 157, 158, 159, 45, 160, 161, 162, 163, 164, 165, 166, 167, 168, 169, 170, 171, 172, 173, 174, 175, 176, 177, 178, 179, 180, 181, 182, 183, 184, 185, 186, 187, 188, 189, 190, 191, 192, 193, 194, 195, 196, 197, 198, 199, 200, 201, 202, 203, 204, 205] rfl (by decide +kernel)
set_option maxRecDepth 200000 in
theorem gL_labelsAll_X6_labelAll : GoodIn wsL_labelsAll (wsV RL 192 RX6 yX6_labelAll wsX6_labelAll) := goodIn_app (goodIn_of _ (by decide +kernel)) ggL_labelsAll_X6_labelAll
theorem dL_labelsAll_0 : decode cL_labelsAll 0 = .ok (.iconst 0, 1) := by decide +kernel
theorem dL_labelsAll_1 : decode cL_labelsAll 1 = .ok (.istore_n 3, 1) := by decide +kernel
theorem dL_labelsAll_2 : decode cL_labelsAll 2 = .ok (.iconst 0, 1) := by decide +kernel
theorem dL_labelsAll_3 : decode cL_labelsAll 3 = .ok (.istore 4, 2) := by decide +kernel
theorem dL_labelsAll_5 : decode cL_labelsAll 5 = .ok (.iload 4, 2) := by decide +kernel
theorem dL_labelsAll_7 : decode cL_labelsAll 7 = .ok (.aload_n 1, 1) := by decide +kernel
theorem dL_labelsAll_8 : decode cL_labelsAll 8 = .ok (.bipush 32, 2) := by decide +kernel
theorem dL_labelsAll_10 : decode cL_labelsAll 10 = .ok (.iaload, 1) := by decide +kernel
theorem dL_labelsAll_11 : decode cL_labelsAll 11 = .ok (.if_icmp .ge 18, 3) := by decide +kernel
theorem dL_labelsAll_14 : decode cL_labelsAll 14 = .ok (.aload_n 1, 1) := by decide +kernel
theorem dL_labelsAll_15 : decode cL_labelsAll 15 = .ok (.iconst 4, 1) := by decide +kernel
theorem dL_labelsAll_16 : decode cL_labelsAll 16 = .ok (.iload 4, 2) := by decide +kernel
theorem dL_labelsAll_18 : decode cL_labelsAll 18 = .ok (.imul, 1) := by decide +kernel
theorem dL_labelsAll_19 : decode cL_labelsAll 19 = .ok (.iconst 3, 1) := by decide +kernel
theorem dL_labelsAll_20 : decode cL_labelsAll 20 = .ok (.iadd, 1) := by decide +kernel
theorem dL_labelsAll_21 : decode cL_labelsAll 21 = .ok (.iconst (-1), 1) := by decide +kernel
theorem dL_labelsAll_22 : decode cL_labelsAll 22 = .ok (.iastore, 1) := by decide +kernel
theorem dL_labelsAll_23 : decode cL_labelsAll 23 = .ok (.iinc 4 1, 3) := by decide +kernel
theorem dL_labelsAll_26 : decode cL_labelsAll 26 = .ok (.goto (-21), 3) := by decide +kernel
theorem dL_labelsAll_29 : decode cL_labelsAll 29 = .ok (.iconst 0, 1) := by decide +kernel
theorem dL_labelsAll_30 : decode cL_labelsAll 30 = .ok (.istore 4, 2) := by decide +kernel
theorem dL_labelsAll_32 : decode cL_labelsAll 32 = .ok (.iload 4, 2) := by decide +kernel
theorem dL_labelsAll_34 : decode cL_labelsAll 34 = .ok (.bipush 100, 2) := by decide +kernel
theorem dL_labelsAll_36 : decode cL_labelsAll 36 = .ok (.if_icmp .ge 72, 3) := by decide +kernel
theorem dL_labelsAll_39 : decode cL_labelsAll 39 = .ok (.iconst 0, 1) := by decide +kernel
theorem dL_labelsAll_40 : decode cL_labelsAll 40 = .ok (.istore 5, 2) := by decide +kernel
theorem dL_labelsAll_42 : decode cL_labelsAll 42 = .ok (.iload 5, 2) := by decide +kernel
theorem dL_labelsAll_44 : decode cL_labelsAll 44 = .ok (.aload_n 1, 1) := by decide +kernel
theorem dL_labelsAll_45 : decode cL_labelsAll 45 = .ok (.bipush 32, 2) := by decide +kernel
theorem dL_labelsAll_47 : decode cL_labelsAll 47 = .ok (.iaload, 1) := by decide +kernel
theorem dL_labelsAll_48 : decode cL_labelsAll 48 = .ok (.if_icmp .ge 54, 3) := by decide +kernel
theorem dL_labelsAll_51 : decode cL_labelsAll 51 = .ok (.aload_n 1, 1) := by decide +kernel
theorem dL_labelsAll_52 : decode cL_labelsAll 52 = .ok (.iconst 4, 1) := by decide +kernel
theorem dL_labelsAll_53 : decode cL_labelsAll 53 = .ok (.iload 5, 2) := by decide +kernel
theorem dL_labelsAll_55 : decode cL_labelsAll 55 = .ok (.imul, 1) := by decide +kernel
theorem dL_labelsAll_56 : decode cL_labelsAll 56 = .ok (.iaload, 1) := by decide +kernel
theorem dL_labelsAll_57 : decode cL_labelsAll 57 = .ok (.iload 4, 2) := by decide +kernel
theorem dL_labelsAll_59 : decode cL_labelsAll 59 = .ok (.if_icmp .ne 37, 3) := by decide +kernel
theorem dL_labelsAll_62 : decode cL_labelsAll 62 = .ok (.aload_n 1, 1) := by decide +kernel
theorem dL_labelsAll_63 : decode cL_labelsAll 63 = .ok (.iconst 4, 1) := by decide +kernel
theorem dL_labelsAll_64 : decode cL_labelsAll 64 = .ok (.iload 5, 2) := by decide +kernel
theorem dL_labelsAll_66 : decode cL_labelsAll 66 = .ok (.imul, 1) := by decide +kernel
theorem dL_labelsAll_67 : decode cL_labelsAll 67 = .ok (.iconst 3, 1) := by decide +kernel
theorem dL_labelsAll_68 : decode cL_labelsAll 68 = .ok (.iadd, 1) := by decide +kernel
theorem dL_labelsAll_69 : decode cL_labelsAll 69 = .ok (.aload_n 1, 1) := by decide +kernel
theorem dL_labelsAll_70 : decode cL_labelsAll 70 = .ok (.aload_n 2, 1) := by decide +kernel
theorem dL_labelsAll_71 : decode cL_labelsAll 71 = .ok (.iload 5, 2) := by decide +kernel
theorem dL_labelsAll_73 : decode cL_labelsAll 73 = .ok (.invokestatic 104, 3) := by decide +kernel
theorem dL_labelsAll_76 : decode cL_labelsAll 76 = .ok (.iastore, 1) := by decide +kernel
theorem dL_labelsAll_77 : decode cL_labelsAll 77 = .ok (.iload_n 3, 1) := by decide +kernel
theorem dL_labelsAll_78 : decode cL_labelsAll 78 = .ok (.aload_n 1, 1) := by decide +kernel
theorem dL_labelsAll_79 : decode cL_labelsAll 79 = .ok (.iconst 4, 1) := by decide +kernel
theorem dL_labelsAll_80 : decode cL_labelsAll 80 = .ok (.iload 5, 2) := by decide +kernel
theorem dL_labelsAll_82 : decode cL_labelsAll 82 = .ok (.imul, 1) := by decide +kernel
theorem dL_labelsAll_83 : decode cL_labelsAll 83 = .ok (.iconst 3, 1) := by decide +kernel
theorem dL_labelsAll_84 : decode cL_labelsAll 84 = .ok (.iadd, 1) := by decide +kernel
theorem dL_labelsAll_85 : decode cL_labelsAll 85 = .ok (.iaload, 1) := by decide +kernel
theorem dL_labelsAll_86 : decode cL_labelsAll 86 = .ok (.ifCond .ge 7, 3) := by decide +kernel
theorem dL_labelsAll_89 : decode cL_labelsAll 89 = .ok (.iconst 0, 1) := by decide +kernel
theorem dL_labelsAll_90 : decode cL_labelsAll 90 = .ok (.goto 4, 3) := by decide +kernel
theorem dL_labelsAll_93 : decode cL_labelsAll 93 = .ok (.iconst 1, 1) := by decide +kernel
theorem dL_labelsAll_94 : decode cL_labelsAll 94 = .ok (.iadd, 1) := by decide +kernel
theorem dL_labelsAll_95 : decode cL_labelsAll 95 = .ok (.istore_n 3, 1) := by decide +kernel
theorem dL_labelsAll_96 : decode cL_labelsAll 96 = .ok (.iinc 5 1, 3) := by decide +kernel
theorem dL_labelsAll_99 : decode cL_labelsAll 99 = .ok (.goto (-57), 3) := by decide +kernel
theorem dL_labelsAll_102 : decode cL_labelsAll 102 = .ok (.iinc 4 1, 3) := by decide +kernel
theorem dL_labelsAll_105 : decode cL_labelsAll 105 = .ok (.goto (-73), 3) := by decide +kernel
theorem dL_labelsAll_108 : decode cL_labelsAll 108 = .ok (.aload_n 0, 1) := by decide +kernel
theorem dL_labelsAll_109 : decode cL_labelsAll 109 = .ok (.invokevirtual 192, 3) := by decide +kernel
theorem dL_labelsAll_112 : decode cL_labelsAll 112 = .ok (.iload_n 3, 1) := by decide +kernel
theorem dL_labelsAll_113 : decode cL_labelsAll 113 = .ok (.if_icmp .ne 7, 3) := by decide +kernel
theorem dL_labelsAll_116 : decode cL_labelsAll 116 = .ok (.iconst 1, 1) := by decide +kernel
theorem dL_labelsAll_117 : decode cL_labelsAll 117 = .ok (.goto 4, 3) := by decide +kernel
theorem dL_labelsAll_120 : decode cL_labelsAll 120 = .ok (.iconst 0, 1) := by decide +kernel
theorem dL_labelsAll_121 : decode cL_labelsAll 121 = .ok (.ireturn, 1) := by decide +kernel
set_option maxRecDepth 200000 in
theorem ggL_acts_L_low : GoodIn wsL_acts wsL_low := goodIn_r _ [4, 5] rfl (by decide +kernel)
set_option maxRecDepth 200000 in
theorem gL_acts_L_low : GoodIn wsL_acts (va_wsS RL 133 yL_low wsL_low) := goodIn_app (goodIn_of _ (by decide +kernel)) ggL_acts_L_low
set_option maxRecDepth 200000 in
theorem ggL_acts_L_rings : GoodIn wsL_acts wsL_rings := goodIn_ca (goodIn_ca (goodIn_ca (goodIn_r _ [8, 1, 2, 3, 4, 5, 9, 10, 11, 12, 13, 14, 15, 16, 17, 18, 19, 20, 21, 22, 23, 24, 25, 26, 27, 28, 29, 30, 31, 32, 33, 34, 35, 36, 37, 38, 39, 40, 41, 42, 43, 44, 45, 46, 47, 48, 49, 50, 51, 52, 53, 54, 55, 56, 57, 58, 59, 60, 61, 62, 63, 64, 65, 66, 67, 68, 69, 70, 71, 72, 73, 74, 75, 76, 77, 78, 79, 80, 81, 82, 83, 84, 85, 86, 87, 88, 89, 90, 91, 92, 93, 94, 95, 96, 97, 98, 99, 100, 101, 102, 103, 104, 105, 106, 107, 108, 109, 110, 111, 112, 113, 114, 115, 116, 117, 118, 119, 120, 121, 122, 123, 124, 125, 126, 127, 128, 129, 130, 131, 132, 133, 134, 135, 136, 137, 138, 139, 140, 141, 142, 143, 144, 145, 146, 147, 148, 149, 150, 151, 152, 153, 154, 155, 156, 157, 158, 159, 160, 161, 162, 163, 164, 165, 166, 167, 168, 169, 170, 171, 172, 173, 174, 175, 176, 177, 178, 179, 180, 181, 182, 183, 184, 185, 186, 187, 188, 189, 190, 191, 192, 193, 194, 195, 196, 197, 198, 199, 200, 201, 202, 203, 204, 205, 206, 207, 208, 209, 210, 211, 212, 213, 214, 215, 216, 217, 218, 219, 220, 221, 222, 223, 224, 225, 226, 227, 228, 229, 230, 231, 232, 233, 234, 235, 236, 237, 238, 239, 240, 241, 242, 243, 244, 245, 246, 247, 248, 249, 250, 251, 252, 253, 254, 255, 256, 257, 258, 259, 260, 261, 262, 263, 264, 356, 357, 358, 359, 360, 361, 362, 363, 364, 365, 366, 367, 368, 369, 370] rfl (by decide +kernel)) (goodIn_sub (fun _ h => List.mem_cons_of_mem _ (List.mem_append_left _ (List.mem_append_left _ (List.mem_append_right _ h)))) (by decide +kernel))) (goodIn_sub (fun _ h => List.mem_cons_of_mem _ (List.mem_append_left _ (List.mem_append_right _ h))) (by decide +kernel))) (goodIn_sub (fun _ h => List.mem_cons_of_mem _ (List.mem_append_right _ h)) (by decide +kernel))
set_option maxRecDepth 200000 in
theorem gL_acts_L_rings : GoodIn wsL_acts (va_wsS RL 195 yL_rings wsL_rings) := goodIn_app (goodIn_of _ (by decide +kernel)) ggL_acts_L_rings
set_option maxRecDepth 200000 in
theorem ggL_acts_L_begins : GoodIn wsL_acts wsL_begins := goodIn_ca (goodIn_ca (goodIn_ca (goodIn_r _ [11, 12, 13, 3, 14, 15, 16, 17, 18, 19, 20, 21, 22, 23, 24, 25, 26, 27, 28, 29, 30, 31, 32, 33, 34, 35, 36, 37, 38, 39, 40, 41, 42, 43, 44, 45, 46, 47, 48, 49, 50, 51, 52, 53, 54, 55, 56, 57, 58, 59, 60, 61, 62, 63, 64, 65, 66, 67, 68, 69, 70, 71, 72, 73, 74, 75, 76, 77, 78, 79, 80, 81, 82, 83, 84, 85, 86, 87, 88, 89, 90, 91, 92, 93, 94, 95, 96, 97, 98, 99, 100, 101, 102, 103, 104, 105, 106, 107, 108, 109, 110, 111, 112, 113, 114, 115, 116, 117, 118, 119, 120, 121, 122, 123, 124, 125, 126, 127, 128, 129, 130, 131, 132, 133, 134, 135, 136, 137, 138, 139, 140, 141, 142, 143, 144, 145, 146, 147, 148, 149, 150, 151, 152, 153, 154, 155, 156, 157, 158, 159, 160, 161, 162, 163, 164, 165, 166, 167, 168, 169, 170, 171, 172, 173, 174, 175, 176, 177, 178, 179, 180, 181, 182, 183, 184, 185, 186, 187, 188, 189, 190, 191, 192, 193, 194, 195, 196, 197, 198, 199, 200, 201, 202, 203, 204, 205, 206, 207, 208, 209, 210, 211, 212, 213, 214, 215, 216, 217, 218, 219, 220, 221, 222, 223, 224, 225, 226, 227, 228, 229, 230, 231, 232, 233, 234, 235, 236, 237, 238, 239, 240, 241, 242, 243, 244, 245, 246, 247, 248, 249, 250, 251, 252, 253, 254, 255, 356, 357, 358, 359, 360, 361, 362, 363, 364, 365, 366, 367, 368, 369, 370] rfl (by decide +kernel)) (goodIn_sub (fun _ h => List.mem_cons_of_mem _ (List.mem_append_left _ (List.mem_append_left _ (List.mem_append_right _ h)))) (by decide +kernel))) (goodIn_sub (fun _ h => List.mem_cons_of_mem _ (List.mem_append_left _ (List.mem_append_right _ h))) (by decide +kernel))) (goodIn_sub (fun _ h => List.mem_cons_of_mem _ (List.mem_append_right _ h)) (by decide +kernel))
set_option maxRecDepth 200000 in
theorem gL_acts_L_begins : GoodIn wsL_acts (va_wsS RL 185 yL_begins wsL_begins) := goodIn_app (goodIn_of _ (by decide +kernel)) ggL_acts_L_begins
set_option maxRecDepth 200000 in
theorem ggL_acts_L_wipes : GoodIn wsL_acts wsL_wipes := goodIn_r _ [267] rfl (by decide +kernel)
set_option maxRecDepth 200000 in
theorem gL_acts_L_wipes : GoodIn wsL_acts (va_wsS RL 199 yL_wipes wsL_wipes) := goodIn_app (goodIn_of _ (by decide +kernel)) ggL_acts_L_wipes
set_option maxRecDepth 200000 in
theorem ggL_acts_X6_wipe : GoodIn wsL_acts wsX6_wipe := goodIn_ca (goodIn_r _ [271, 40, 39, 112, 113, 114, 35, 115, 44, 45, 116, 117, 118, 57, 119, 59, 78, 79, 80, 81, 82, 83, 84, 85, 86, 87, 88, 89, 90, 91, 92, 93, 94, 95, 96, 97, 98, 99, 100, 101, 102, 72, 103, 77, 272, 273, 274, 275, 276, 277, 278, 279, 280, 281, 219, 220, 221, 356, 357, 358, 359, 360, 361, 362, 363, 364, 365, 366, 367, 368, 369, 370] rfl (by decide +kernel)) (goodIn_sub (fun _ h => List.mem_cons_of_mem _ (List.mem_append_left _ (List.mem_append_right _ h))) (by decide +kernel))
set_option maxRecDepth 200000 in
theorem gL_acts_X6_wipe : GoodIn wsL_acts (wsV RL 203 RX6 yX6_wipe wsX6_wipe) := goodIn_app (goodIn_of _ (by decide +kernel)) ggL_acts_X6_wipe
set_option maxRecDepth 200000 in
theorem ggL_acts_X6_setLevel : GoodIn wsL_acts wsX6_setLevel := goodIn_ca (goodIn_ca (goodIn_r _ [285, 40, 39, 112, 113, 114, 35, 115, 44, 45, 116, 117, 118, 57, 119, 59, 49, 50, 51, 52, 53, 78, 79, 80, 81, 82, 83, 84, 85, 86, 87, 88, 89, 90, 91, 92, 93, 94, 95, 96, 97, 98, 99, 100, 101, 102, 72, 103, 77, 286, 287, 288, 289, 290, 291, 292, 293, 239, 240, 241, 242, 356, 357, 358, 359, 360, 361, 362, 363, 364, 365, 366, 367, 368, 369, 370] rfl (by decide +kernel)) (goodIn_sub (fun _ h => List.mem_cons_of_mem _ (List.mem_append_left _ (List.mem_append_right _ h))) (by decide +kernel))) (goodIn_sub (fun _ h => List.mem_cons_of_mem _ (List.mem_append_right _ h)) (by decide +kernel))
set_option maxRecDepth 200000 in
theorem gL_acts_X6_setLevel : GoodIn wsL_acts (wsV RL 206 RX6 yX6_setLevel wsX6_setLevel) := goodIn_app (goodIn_of _ (by decide +kernel)) ggL_acts_X6_setLevel
set_option maxRecDepth 200000 in
theorem ggL_acts_X6_setGap : GoodIn wsL_acts wsX6_setGap := goodIn_ca (goodIn_r _ [297, 52, 53, 40, 39, 78, 79, 80, 81, 82, 83, 84, 85, 86, 87, 88, 89, 90, 91, 92, 93, 94, 95, 57, 96, 59, 97, 98, 99, 100, 101, 102, 72, 103, 77, 298, 236, 237, 238, 299, 300, 301, 302, 356, 357, 358, 359, 366, 367, 368, 369, 370, 360, 361, 362, 363, 364, 365] rfl (by decide +kernel)) (goodIn_sub (fun _ h => List.mem_cons_of_mem _ (List.mem_append_right _ h)) (by decide +kernel))
set_option maxRecDepth 200000 in
theorem gL_acts_X6_setGap : GoodIn wsL_acts (wsV RL 209 RX6 yX6_setGap wsX6_setGap) := goodIn_app (goodIn_of _ (by decide +kernel)) ggL_acts_X6_setGap
set_option maxRecDepth 200000 in
theorem ggL_acts_L_labelsAll : GoodIn wsL_acts wsL_labelsAll := goodIn_r _ [305, 306, 307, 3, 308, 15, 16, 17, 18, 19, 20, 21, 22, 23, 24, 25, 26, 27, 309, 310, 311, 312, 313, 314, 315, 316, 317, 262, 263, 264, 318, 319, 320, 321, 322, 323, 324, 325, 326, 327, 328, 329, 330, 331, 332, 35, 333, 40, 39, 78, 79, 80, 81, 82, 83, 84, 85, 86, 87, 88, 89, 90, 91, 92, 93, 94, 95, 57, 96, 59, 97, 98, 99, 100, 101, 102, 72, 103, 77, 334, 335, 173, 336, 218, 219, 220, 221, 337, 240, 241, 242, 338, 339, 340, 341, 342, 343, 344, 345, 346, 287, 288, 289, 347, 254, 255, 181, 69, 70, 71, 175, 176, 177, 178, 179, 180, 182, 131, 132, 133, 183, 168, 169, 170, 184, 185, 186, 187, 188, 189, 190, 191, 192, 193, 194, 195, 196, 197, 198, 199, 200, 201, 202, 203, 204, 205, 206, 207, 208, 130, 68, 209, 210, 211, 212, 213, 74, 75, 76, 142, 143, 139, 140, 214, 215, 216, 217, 222, 223, 224, 225, 226, 227, 228, 229, 230, 231, 232, 233, 234, 138, 141, 235, 236, 237, 238, 348, 349, 350, 351, 352, 356, 357, 358, 359, 366, 367, 368, 369, 370, 360, 361, 362, 363, 364, 365] rfl (by decide +kernel)
set_option maxRecDepth 200000 in
theorem gL_acts_L_labelsAll : GoodIn wsL_acts (va_wsS RL 212 yL_labelsAll wsL_labelsAll) := goodIn_app (goodIn_of _ (by decide +kernel)) ggL_acts_L_labelsAll
set_option maxRecDepth 200000 in
theorem ggL_acts_L_labels : GoodIn wsL_acts wsL_labels := goodIn_ca (goodIn_ca (goodIn_ca (goodIn_r _ [355, 15, 16, 17, 3, 18, 19, 20, 21, 22, 23, 24, 25, 26, 27, 1, 2, 4, 5, 309, 310, 311, 312, 313, 314, 315, 316, 317, 262, 263, 264, 318, 319, 320, 321, 322, 323, 324, 325, 326, 327, 328, 329, 28, 29, 30, 31, 32, 33, 34, 35, 36, 37, 38, 39, 40, 41, 42, 43, 44, 45, 46, 47, 48, 49, 50, 51, 52, 53, 54, 55, 56, 57, 58, 59, 60, 61, 62, 63, 64, 65, 66, 67, 68, 69, 70, 71, 72, 73, 74, 75, 76, 77, 78, 79, 80, 81, 82, 83, 84, 85, 86, 87, 88, 89, 90, 91, 92, 93, 94, 95, 96, 97, 98, 99, 100, 101, 102, 103, 104, 105, 106, 107, 108, 109, 110, 111, 112, 113, 114, 115, 116, 117, 118, 119, 120, 121, 122, 123, 124, 125, 126, 127, 128, 129, 130, 131, 132, 133, 134, 135, 136, 137, 138, 139, 140, 141, 142, 143, 144, 145, 146, 147, 148, 149, 150, 151, 152, 153, 154, 155, 156, 157, 158, 159, 160, 161, 162, 163, 164, 165, 166, 167, 168, 169, 170, 171, 172, 173, 174, 175, 176, 177, 178, 179, 180, 181, 182, 183, 184, 185, 186, 187, 188, 189, 190, 191, 192, 193, 194, 195, 196, 197, 198, 199, 200, 201, 202, 203, 204, 205, 206, 207, 208, 209, 210, 211, 212, 213, 214, 215, 216, 217, 218, 219, 220, 221, 222, 223, 224, 225, 226, 227, 228, 229, 230, 231, 232, 233, 234, 235, 236, 237, 238, 239, 240, 241, 242, 243, 244, 245, 246, 247, 248, 249, 250, 251, 252, 253, 254, 255, 306, 307, 308, 356, 357, 358, 359, 360, 361, 362, 363, 364, 365, 366, 367, 368, 369, 370] rfl (by decide +kernel)) (goodIn_sub (fun _ h => List.mem_cons_of_mem _ (List.mem_append_left _ (List.mem_append_left _ (List.mem_append_right _ h)))) (by decide +kernel))) (goodIn_sub (fun _ h => List.mem_cons_of_mem _ (List.mem_append_left _ (List.mem_append_right _ h))) (by decide +kernel))) (goodIn_sub (fun _ h => List.mem_cons_of_mem _ (List.mem_append_right _ h)) (by decide +kernel))
set_option maxRecDepth 200000 in
theorem gL_acts_L_labels : GoodIn wsL_acts (va_wsS RL 216 yL_labels wsL_labels) := goodIn_app (goodIn_of _ (by decide +kernel)) ggL_acts_L_labels
set_option maxRecDepth 200000 in
theorem ggL_acts_L_steps : GoodIn wsL_acts wsL_steps := goodIn_ca (goodIn_ca (goodIn_ca (goodIn_r _ [258, 15, 259, 260, 3, 261, 16, 17, 18, 19, 20, 21, 22, 23, 24, 25, 26, 27, 262, 263, 264, 12, 13, 14, 28, 29, 30, 31, 32, 33, 34, 35, 36, 37, 38, 39, 40, 41, 42, 43, 44, 45, 46, 47, 48, 49, 50, 51, 52, 53, 54, 55, 56, 57, 58, 59, 60, 61, 62, 63, 64, 65, 66, 67, 68, 69, 70, 71, 72, 73, 74, 75, 76, 77, 78, 79, 80, 81, 82, 83, 84, 85, 86, 87, 88, 89, 90, 91, 92, 93, 94, 95, 96, 97, 98, 99, 100, 101, 102, 103, 104, 105, 106, 107, 108, 109, 110, 111, 112, 113, 114, 115, 116, 117, 118, 119, 120, 121, 122, 123, 124, 125, 126, 127, 128, 129, 130, 131, 132, 133, 134, 135, 136, 137, 138, 139, 140, 141, 142, 143, 144, 145, 146, 147, 148, 149, 150, 151, 152, 153, 154, 155, 156, 157, 158, 159, 160, 161, 162, 163, 164, 165, 166, 167, 168, 169, 170, 171, 172, 173, 174, 175, 176, 177, 178, 179, 180, 181, 182, 183, 184, 185, 186, 187, 188, 189, 190, 191, 192, 193, 194, 195, 196, 197, 198, 199, 200, 201, 202, 203, 204, 205, 206, 207, 208, 209, 210, 211, 212, 213, 214, 215, 216, 217, 218, 219, 220, 221, 222, 223, 224, 225, 226, 227, 228, 229, 230, 231, 232, 233, 234, 235, 236, 237, 238, 239, 240, 241, 242, 243, 244, 245, 246, 247, 248, 249, 250, 251, 252, 253, 254, 255, 356, 357, 358, 359, 360, 361, 362, 363, 364, 365, 366, 367, 368, 369, 370] rfl (by decide +kernel)) (goodIn_sub (fun _ h => List.mem_cons_of_mem _ (List.mem_append_left _ (List.mem_append_left _ (List.mem_append_right _ h)))) (by decide +kernel))) (goodIn_sub (fun _ h => List.mem_cons_of_mem _ (List.mem_append_left _ (List.mem_append_right _ h))) (by decide +kernel))) (goodIn_sub (fun _ h => List.mem_cons_of_mem _ (List.mem_append_right _ h)) (by decide +kernel))
set_option maxRecDepth 200000 in
theorem gL_acts_L_steps : GoodIn wsL_acts (va_wsS RL 189 yL_steps wsL_steps) := goodIn_app (goodIn_of _ (by decide +kernel)) ggL_acts_L_steps
theorem dL_acts_0 : decode cL_acts 0 = .ok (.iload_n 3, 1) := by decide +kernel
theorem dL_acts_1 : decode cL_acts 1 = .ok (.iconst 5, 1) := by decide +kernel
theorem dL_acts_2 : decode cL_acts 2 = .ok (.ishr, 1) := by decide +kernel
theorem dL_acts_3 : decode cL_acts 3 = .ok (.aload_n 1, 1) := by decide +kernel
theorem dL_acts_4 : decode cL_acts 4 = .ok (.bipush 32, 2) := by decide +kernel
theorem dL_acts_6 : decode cL_acts 6 = .ok (.iaload, 1) := by decide +kernel
theorem dL_acts_7 : decode cL_acts 7 = .ok (.ifCond .ne 7, 3) := by decide +kernel
theorem dL_acts_10 : decode cL_acts 10 = .ok (.iconst 1, 1) := by decide +kernel
theorem dL_acts_11 : decode cL_acts 11 = .ok (.goto 7, 3) := by decide +kernel
theorem dL_acts_14 : decode cL_acts 14 = .ok (.aload_n 1, 1) := by decide +kernel
theorem dL_acts_15 : decode cL_acts 15 = .ok (.bipush 32, 2) := by decide +kernel
theorem dL_acts_17 : decode cL_acts 17 = .ok (.iaload, 1) := by decide +kernel
theorem dL_acts_18 : decode cL_acts 18 = .ok (.invokestatic 133, 3) := by decide +kernel
theorem dL_acts_21 : decode cL_acts 21 = .ok (.istore 4, 2) := by decide +kernel
theorem dL_acts_23 : decode cL_acts 23 = .ok (.iconst 0, 1) := by decide +kernel
theorem dL_acts_24 : decode cL_acts 24 = .ok (.istore 5, 2) := by decide +kernel
theorem dL_acts_26 : decode cL_acts 26 = .ok (.iload_n 3, 1) := by decide +kernel
theorem dL_acts_27 : decode cL_acts 27 = .ok (.bipush 20, 2) := by decide +kernel
theorem dL_acts_29 : decode cL_acts 29 = .ok (.invokestatic 133, 3) := by decide +kernel
theorem dL_acts_32 : decode cL_acts 32 = .ok (.istore 6, 2) := by decide +kernel
theorem dL_acts_34 : decode cL_acts 34 = .ok (.iload 6, 2) := by decide +kernel
theorem dL_acts_36 : decode cL_acts 36 = .ok (.iconst 3, 1) := by decide +kernel
theorem dL_acts_37 : decode cL_acts 37 = .ok (.if_icmp .lt 10, 3) := by decide +kernel
theorem dL_acts_40 : decode cL_acts 40 = .ok (.aload_n 1, 1) := by decide +kernel
theorem dL_acts_41 : decode cL_acts 41 = .ok (.bipush 32, 2) := by decide +kernel
theorem dL_acts_43 : decode cL_acts 43 = .ok (.iaload, 1) := by decide +kernel
theorem dL_acts_44 : decode cL_acts 44 = .ok (.ifCond .ne 11, 3) := by decide +kernel
theorem dL_acts_47 : decode cL_acts 47 = .ok (.aload_n 0, 1) := by decide +kernel
theorem dL_acts_48 : decode cL_acts 48 = .ok (.aload_n 1, 1) := by decide +kernel
theorem dL_acts_49 : decode cL_acts 49 = .ok (.aload_n 2, 1) := by decide +kernel
theorem dL_acts_50 : decode cL_acts 50 = .ok (.iload_n 3, 1) := by decide +kernel
theorem dL_acts_51 : decode cL_acts 51 = .ok (.invokestatic 195, 3) := by decide +kernel
theorem dL_acts_54 : decode cL_acts 54 = .ok (.ireturn, 1) := by decide +kernel
theorem dL_acts_55 : decode cL_acts 55 = .ok (.iload 6, 2) := by decide +kernel
theorem dL_acts_57 : decode cL_acts 57 = .ok (.tableswitch 258 3 13 #[59, 84, 110, 181, 221, 221, 228, 228, 228, 245, 245], 59) := by decide +kernel
theorem dL_acts_116 : decode cL_acts 116 = .ok (.aload_n 0, 1) := by decide +kernel
theorem dL_acts_117 : decode cL_acts 117 = .ok (.aload_n 1, 1) := by decide +kernel
theorem dL_acts_118 : decode cL_acts 118 = .ok (.aload_n 2, 1) := by decide +kernel
theorem dL_acts_119 : decode cL_acts 119 = .ok (.iload_n 3, 1) := by decide +kernel
theorem dL_acts_120 : decode cL_acts 120 = .ok (.bipush 7, 2) := by decide +kernel
theorem dL_acts_122 : decode cL_acts 122 = .ok (.ishr, 1) := by decide +kernel
theorem dL_acts_123 : decode cL_acts 123 = .ok (.bipush 100, 2) := by decide +kernel
theorem dL_acts_125 : decode cL_acts 125 = .ok (.invokestatic 133, 3) := by decide +kernel
theorem dL_acts_128 : decode cL_acts 128 = .ok (.iload_n 3, 1) := by decide +kernel
theorem dL_acts_129 : decode cL_acts 129 = .ok (.iconst 4, 1) := by decide +kernel
theorem dL_acts_130 : decode cL_acts 130 = .ok (.ishr, 1) := by decide +kernel
theorem dL_acts_131 : decode cL_acts 131 = .ok (.sipush 384, 3) := by decide +kernel
theorem dL_acts_134 : decode cL_acts 134 = .ok (.invokestatic 133, 3) := by decide +kernel
theorem dL_acts_137 : decode cL_acts 137 = .ok (.invokestatic 185, 3) := by decide +kernel
theorem dL_acts_140 : decode cL_acts 140 = .ok (.ireturn, 1) := by decide +kernel
theorem dL_acts_141 : decode cL_acts 141 = .ok (.aload_n 1, 1) := by decide +kernel
theorem dL_acts_142 : decode cL_acts 142 = .ok (.aload_n 2, 1) := by decide +kernel
theorem dL_acts_143 : decode cL_acts 143 = .ok (.iload 4, 2) := by decide +kernel
theorem dL_acts_145 : decode cL_acts 145 = .ok (.invokestatic 199, 3) := by decide +kernel
theorem dL_acts_148 : decode cL_acts 148 = .ok (.aload_n 0, 1) := by decide +kernel
theorem dL_acts_149 : decode cL_acts 149 = .ok (.iload 4, 2) := by decide +kernel
theorem dL_acts_151 : decode cL_acts 151 = .ok (.invokevirtual 203, 3) := by decide +kernel
theorem dL_acts_154 : decode cL_acts 154 = .ok (.aload_n 1, 1) := by decide +kernel
theorem dL_acts_155 : decode cL_acts 155 = .ok (.bipush 32, 2) := by decide +kernel
theorem dL_acts_157 : decode cL_acts 157 = .ok (.iaload, 1) := by decide +kernel
theorem dL_acts_158 : decode cL_acts 158 = .ok (.if_icmp .ne 7, 3) := by decide +kernel
theorem dL_acts_161 : decode cL_acts 161 = .ok (.iconst 1, 1) := by decide +kernel
theorem dL_acts_162 : decode cL_acts 162 = .ok (.goto 4, 3) := by decide +kernel
theorem dL_acts_165 : decode cL_acts 165 = .ok (.iconst 0, 1) := by decide +kernel
theorem dL_acts_166 : decode cL_acts 166 = .ok (.ireturn, 1) := by decide +kernel
theorem dL_acts_167 : decode cL_acts 167 = .ok (.aload_n 1, 1) := by decide +kernel
theorem dL_acts_168 : decode cL_acts 168 = .ok (.iconst 4, 1) := by decide +kernel
theorem dL_acts_169 : decode cL_acts 169 = .ok (.iload 4, 2) := by decide +kernel
theorem dL_acts_171 : decode cL_acts 171 = .ok (.imul, 1) := by decide +kernel
theorem dL_acts_172 : decode cL_acts 172 = .ok (.iaload, 1) := by decide +kernel
theorem dL_acts_173 : decode cL_acts 173 = .ok (.istore 5, 2) := by decide +kernel
theorem dL_acts_175 : decode cL_acts 175 = .ok (.aload_n 1, 1) := by decide +kernel
theorem dL_acts_176 : decode cL_acts 176 = .ok (.iconst 4, 1) := by decide +kernel
theorem dL_acts_177 : decode cL_acts 177 = .ok (.iload 4, 2) := by decide +kernel
theorem dL_acts_179 : decode cL_acts 179 = .ok (.imul, 1) := by decide +kernel
theorem dL_acts_180 : decode cL_acts 180 = .ok (.iload_n 3, 1) := by decide +kernel
theorem dL_acts_181 : decode cL_acts 181 = .ok (.bipush 7, 2) := by decide +kernel
theorem dL_acts_183 : decode cL_acts 183 = .ok (.ishr, 1) := by decide +kernel
theorem dL_acts_184 : decode cL_acts 184 = .ok (.iload_n 3, 1) := by decide +kernel
theorem dL_acts_185 : decode cL_acts 185 = .ok (.bipush 9, 2) := by decide +kernel
theorem dL_acts_187 : decode cL_acts 187 = .ok (.ishr, 1) := by decide +kernel
theorem dL_acts_188 : decode cL_acts 188 = .ok (.iconst 2, 1) := by decide +kernel
theorem dL_acts_189 : decode cL_acts 189 = .ok (.invokestatic 133, 3) := by decide +kernel
theorem dL_acts_192 : decode cL_acts 192 = .ok (.ifCond .ne 8, 3) := by decide +kernel
theorem dL_acts_195 : decode cL_acts 195 = .ok (.bipush 100, 2) := by decide +kernel
theorem dL_acts_197 : decode cL_acts 197 = .ok (.goto 5, 3) := by decide +kernel
theorem dL_acts_200 : decode cL_acts 200 = .ok (.bipush 12, 2) := by decide +kernel
theorem dL_acts_202 : decode cL_acts 202 = .ok (.invokestatic 133, 3) := by decide +kernel
theorem dL_acts_205 : decode cL_acts 205 = .ok (.iastore, 1) := by decide +kernel
theorem dL_acts_206 : decode cL_acts 206 = .ok (.aload_n 1, 1) := by decide +kernel
theorem dL_acts_207 : decode cL_acts 207 = .ok (.iconst 4, 1) := by decide +kernel
theorem dL_acts_208 : decode cL_acts 208 = .ok (.iload 4, 2) := by decide +kernel
theorem dL_acts_210 : decode cL_acts 210 = .ok (.imul, 1) := by decide +kernel
theorem dL_acts_211 : decode cL_acts 211 = .ok (.iconst 3, 1) := by decide +kernel
theorem dL_acts_212 : decode cL_acts 212 = .ok (.iadd, 1) := by decide +kernel
theorem dL_acts_213 : decode cL_acts 213 = .ok (.iconst (-1), 1) := by decide +kernel
theorem dL_acts_214 : decode cL_acts 214 = .ok (.iastore, 1) := by decide +kernel
theorem dL_acts_215 : decode cL_acts 215 = .ok (.aload_n 0, 1) := by decide +kernel
theorem dL_acts_216 : decode cL_acts 216 = .ok (.iload 4, 2) := by decide +kernel
theorem dL_acts_218 : decode cL_acts 218 = .ok (.aload_n 1, 1) := by decide +kernel
theorem dL_acts_219 : decode cL_acts 219 = .ok (.iconst 4, 1) := by decide +kernel
theorem dL_acts_220 : decode cL_acts 220 = .ok (.iload 4, 2) := by decide +kernel
theorem dL_acts_222 : decode cL_acts 222 = .ok (.imul, 1) := by decide +kernel
theorem dL_acts_223 : decode cL_acts 223 = .ok (.iaload, 1) := by decide +kernel
theorem dL_acts_224 : decode cL_acts 224 = .ok (.invokevirtual 206, 3) := by decide +kernel
theorem dL_acts_227 : decode cL_acts 227 = .ok (.iload 5, 2) := by decide +kernel
theorem dL_acts_229 : decode cL_acts 229 = .ok (.if_icmp .ne 7, 3) := by decide +kernel
theorem dL_acts_232 : decode cL_acts 232 = .ok (.iconst 1, 1) := by decide +kernel
theorem dL_acts_233 : decode cL_acts 233 = .ok (.goto 4, 3) := by decide +kernel
theorem dL_acts_236 : decode cL_acts 236 = .ok (.iconst 0, 1) := by decide +kernel
theorem dL_acts_237 : decode cL_acts 237 = .ok (.ireturn, 1) := by decide +kernel
theorem dL_acts_238 : decode cL_acts 238 = .ok (.aload_n 1, 1) := by decide +kernel
theorem dL_acts_239 : decode cL_acts 239 = .ok (.bipush 33, 2) := by decide +kernel
theorem dL_acts_241 : decode cL_acts 241 = .ok (.iaload, 1) := by decide +kernel
theorem dL_acts_242 : decode cL_acts 242 = .ok (.istore 5, 2) := by decide +kernel
theorem dL_acts_244 : decode cL_acts 244 = .ok (.aload_n 1, 1) := by decide +kernel
theorem dL_acts_245 : decode cL_acts 245 = .ok (.bipush 33, 2) := by decide +kernel
theorem dL_acts_247 : decode cL_acts 247 = .ok (.iconst 1, 1) := by decide +kernel
theorem dL_acts_248 : decode cL_acts 248 = .ok (.iload_n 3, 1) := by decide +kernel
theorem dL_acts_249 : decode cL_acts 249 = .ok (.bipush 7, 2) := by decide +kernel
theorem dL_acts_251 : decode cL_acts 251 = .ok (.ishr, 1) := by decide +kernel
theorem dL_acts_252 : decode cL_acts 252 = .ok (.bipush 6, 2) := by decide +kernel
theorem dL_acts_254 : decode cL_acts 254 = .ok (.invokestatic 133, 3) := by decide +kernel
theorem dL_acts_257 : decode cL_acts 257 = .ok (.iadd, 1) := by decide +kernel
theorem dL_acts_258 : decode cL_acts 258 = .ok (.iastore, 1) := by decide +kernel
theorem dL_acts_259 : decode cL_acts 259 = .ok (.aload_n 0, 1) := by decide +kernel
theorem dL_acts_260 : decode cL_acts 260 = .ok (.aload_n 1, 1) := by decide +kernel
theorem dL_acts_261 : decode cL_acts 261 = .ok (.bipush 33, 2) := by decide +kernel
theorem dL_acts_263 : decode cL_acts 263 = .ok (.iaload, 1) := by decide +kernel
theorem dL_acts_264 : decode cL_acts 264 = .ok (.invokevirtual 209, 3) := by decide +kernel
theorem dL_acts_267 : decode cL_acts 267 = .ok (.iload 5, 2) := by decide +kernel
theorem dL_acts_269 : decode cL_acts 269 = .ok (.if_icmp .ne 7, 3) := by decide +kernel
theorem dL_acts_272 : decode cL_acts 272 = .ok (.iconst 1, 1) := by decide +kernel
theorem dL_acts_273 : decode cL_acts 273 = .ok (.goto 4, 3) := by decide +kernel
theorem dL_acts_276 : decode cL_acts 276 = .ok (.iconst 0, 1) := by decide +kernel
theorem dL_acts_277 : decode cL_acts 277 = .ok (.ireturn, 1) := by decide +kernel
theorem dL_acts_278 : decode cL_acts 278 = .ok (.aload_n 0, 1) := by decide +kernel
theorem dL_acts_279 : decode cL_acts 279 = .ok (.aload_n 1, 1) := by decide +kernel
theorem dL_acts_280 : decode cL_acts 280 = .ok (.aload_n 2, 1) := by decide +kernel
theorem dL_acts_281 : decode cL_acts 281 = .ok (.invokestatic 212, 3) := by decide +kernel
theorem dL_acts_284 : decode cL_acts 284 = .ok (.ireturn, 1) := by decide +kernel
theorem dL_acts_285 : decode cL_acts 285 = .ok (.aload_n 0, 1) := by decide +kernel
theorem dL_acts_286 : decode cL_acts 286 = .ok (.aload_n 1, 1) := by decide +kernel
theorem dL_acts_287 : decode cL_acts 287 = .ok (.aload_n 2, 1) := by decide +kernel
theorem dL_acts_288 : decode cL_acts 288 = .ok (.iload 4, 2) := by decide +kernel
theorem dL_acts_290 : decode cL_acts 290 = .ok (.iload 6, 2) := by decide +kernel
theorem dL_acts_292 : decode cL_acts 292 = .ok (.bipush 9, 2) := by decide +kernel
theorem dL_acts_294 : decode cL_acts 294 = .ok (.isub, 1) := by decide +kernel
theorem dL_acts_295 : decode cL_acts 295 = .ok (.iload_n 3, 1) := by decide +kernel
theorem dL_acts_296 : decode cL_acts 296 = .ok (.iconst 3, 1) := by decide +kernel
theorem dL_acts_297 : decode cL_acts 297 = .ok (.ishr, 1) := by decide +kernel
theorem dL_acts_298 : decode cL_acts 298 = .ok (.invokestatic 216, 3) := by decide +kernel
theorem dL_acts_301 : decode cL_acts 301 = .ok (.ireturn, 1) := by decide +kernel
theorem dL_acts_302 : decode cL_acts 302 = .ok (.aload_n 0, 1) := by decide +kernel
theorem dL_acts_303 : decode cL_acts 303 = .ok (.aload_n 1, 1) := by decide +kernel
theorem dL_acts_304 : decode cL_acts 304 = .ok (.aload_n 2, 1) := by decide +kernel
theorem dL_acts_305 : decode cL_acts 305 = .ok (.iload 4, 2) := by decide +kernel
theorem dL_acts_307 : decode cL_acts 307 = .ok (.iconst 2, 1) := by decide +kernel
theorem dL_acts_308 : decode cL_acts 308 = .ok (.iload_n 3, 1) := by decide +kernel
theorem dL_acts_309 : decode cL_acts 309 = .ok (.iconst 3, 1) := by decide +kernel
theorem dL_acts_310 : decode cL_acts 310 = .ok (.ishr, 1) := by decide +kernel
theorem dL_acts_311 : decode cL_acts 311 = .ok (.invokestatic 216, 3) := by decide +kernel
theorem dL_acts_314 : decode cL_acts 314 = .ok (.ireturn, 1) := by decide +kernel
theorem dL_acts_315 : decode cL_acts 315 = .ok (.iconst 1, 1) := by decide +kernel
theorem dL_acts_316 : decode cL_acts 316 = .ok (.istore 7, 2) := by decide +kernel
theorem dL_acts_318 : decode cL_acts 318 = .ok (.iconst 0, 1) := by decide +kernel
theorem dL_acts_319 : decode cL_acts 319 = .ok (.istore 8, 2) := by decide +kernel
theorem dL_acts_321 : decode cL_acts 321 = .ok (.iload 8, 2) := by decide +kernel
theorem dL_acts_323 : decode cL_acts 323 = .ok (.bipush 6, 2) := by decide +kernel
theorem dL_acts_325 : decode cL_acts 325 = .ok (.if_icmp .ge 71, 3) := by decide +kernel
theorem dL_acts_328 : decode cL_acts 328 = .ok (.iload 7, 2) := by decide +kernel
theorem dL_acts_330 : decode cL_acts 330 = .ok (.ifCond .eq 66, 3) := by decide +kernel
theorem dL_acts_333 : decode cL_acts 333 = .ok (.iload_n 3, 1) := by decide +kernel
theorem dL_acts_334 : decode cL_acts 334 = .ok (.bipush 16, 2) := by decide +kernel
theorem dL_acts_336 : decode cL_acts 336 = .ok (.ishr, 1) := by decide +kernel
theorem dL_acts_337 : decode cL_acts 337 = .ok (.bipush 8, 2) := by decide +kernel
theorem dL_acts_339 : decode cL_acts 339 = .ok (.invokestatic 133, 3) := by decide +kernel
theorem dL_acts_342 : decode cL_acts 342 = .ok (.iload_n 3, 1) := by decide +kernel
theorem dL_acts_343 : decode cL_acts 343 = .ok (.iconst 2, 1) := by decide +kernel
theorem dL_acts_344 : decode cL_acts 344 = .ok (.iload 8, 2) := by decide +kernel
theorem dL_acts_346 : decode cL_acts 346 = .ok (.imul, 1) := by decide +kernel
theorem dL_acts_347 : decode cL_acts 347 = .ok (.iconst 3, 1) := by decide +kernel
theorem dL_acts_348 : decode cL_acts 348 = .ok (.iadd, 1) := by decide +kernel
theorem dL_acts_349 : decode cL_acts 349 = .ok (.ishr, 1) := by decide +kernel
theorem dL_acts_350 : decode cL_acts 350 = .ok (.iconst 3, 1) := by decide +kernel
theorem dL_acts_351 : decode cL_acts 351 = .ok (.invokestatic 133, 3) := by decide +kernel
theorem dL_acts_354 : decode cL_acts 354 = .ok (.ifCond .ne 17, 3) := by decide +kernel
theorem dL_acts_357 : decode cL_acts 357 = .ok (.iload_n 3, 1) := by decide +kernel
theorem dL_acts_358 : decode cL_acts 358 = .ok (.iload 8, 2) := by decide +kernel
theorem dL_acts_360 : decode cL_acts 360 = .ok (.ishr, 1) := by decide +kernel
theorem dL_acts_361 : decode cL_acts 361 = .ok (.iconst 3, 1) := by decide +kernel
theorem dL_acts_362 : decode cL_acts 362 = .ok (.invokestatic 133, 3) := by decide +kernel
theorem dL_acts_365 : decode cL_acts 365 = .ok (.bipush 7, 2) := by decide +kernel
theorem dL_acts_367 : decode cL_acts 367 = .ok (.iadd, 1) := by decide +kernel
theorem dL_acts_368 : decode cL_acts 368 = .ok (.goto 4, 3) := by decide +kernel
theorem dL_acts_371 : decode cL_acts 371 = .ok (.iconst 0, 1) := by decide +kernel
theorem dL_acts_372 : decode cL_acts 372 = .ok (.iadd, 1) := by decide +kernel
theorem dL_acts_373 : decode cL_acts 373 = .ok (.istore 9, 2) := by decide +kernel
theorem dL_acts_375 : decode cL_acts 375 = .ok (.aload_n 0, 1) := by decide +kernel
theorem dL_acts_376 : decode cL_acts 376 = .ok (.aload_n 1, 1) := by decide +kernel
theorem dL_acts_377 : decode cL_acts 377 = .ok (.aload_n 2, 1) := by decide +kernel
theorem dL_acts_378 : decode cL_acts 378 = .ok (.iload 4, 2) := by decide +kernel
theorem dL_acts_380 : decode cL_acts 380 = .ok (.iload 9, 2) := by decide +kernel
theorem dL_acts_382 : decode cL_acts 382 = .ok (.bipush 8, 2) := by decide +kernel
theorem dL_acts_384 : decode cL_acts 384 = .ok (.irem, 1) := by decide +kernel
theorem dL_acts_385 : decode cL_acts 385 = .ok (.invokestatic 189, 3) := by decide +kernel
theorem dL_acts_388 : decode cL_acts 388 = .ok (.istore 7, 2) := by decide +kernel
theorem dL_acts_390 : decode cL_acts 390 = .ok (.iinc 8 1, 3) := by decide +kernel
theorem dL_acts_393 : decode cL_acts 393 = .ok (.goto (-72), 3) := by decide +kernel
theorem dL_acts_396 : decode cL_acts 396 = .ok (.iload 7, 2) := by decide +kernel
theorem dL_acts_398 : decode cL_acts 398 = .ok (.ireturn, 1) := by decide +kernel
abbrev vwCl : List vw_C := [(RX0, TX0, 3), (RX1, TX1, 5), (RX3, TX3, 8), (RX4, TX4, 6), (RX6, TX6, 4)]
