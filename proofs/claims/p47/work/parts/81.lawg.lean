set_option maxRecDepth 200000 in
theorem ggL_law_X6_init : GoodIn wsL_law wsX6_init := goodIn_r _ [8, 9, 10, 11, 12, 13, 14, 15, 16, 17, 18, 19, 20, 21, 22, 23, 24, 25, 26, 27, 28, 29, 30, 31, 32, 3, 33, 34, 35, 36, 37, 38, 39, 40, 41, 42, 43, 44, 45, 46, 47, 48, 49, 50, 51, 52, 53, 54, 55, 603, 604, 605, 606, 607, 608, 599, 600, 601, 602, 609, 610, 611, 612, 613, 614, 615, 616, 617, 618, 619, 620, 621, 622, 623, 624] rfl (by decide +kernel)
set_option maxRecDepth 200000 in
theorem gL_law_X6_init : GoodIn wsL_law (wsX6_init) := ggL_law_X6_init
set_option maxRecDepth 200000 in
theorem ggL_law_L_areLines : GoodIn wsL_law wsL_areLines := goodIn_ca (goodIn_r _ [59, 3, 60, 61, 62, 2, 63, 15, 64, 65, 66, 14, 67, 68, 69, 70, 71, 72, 73, 74, 75, 76, 32, 77, 78, 58, 79, 80, 81, 82, 83, 84, 85, 86, 87, 88, 89, 90, 91, 92, 93, 94, 95, 96, 97, 98, 99, 100, 101, 102, 103, 104, 105, 106, 107, 108, 109, 110, 111, 112, 113, 114, 115, 116, 117, 118, 119, 120, 121, 122, 123, 124, 125, 126, 127, 128, 129, 33, 130, 131, 132, 133, 134, 135, 136, 137, 138, 139, 140, 141, 142, 143, 144, 145, 34, 36, 146, 147, 148, 149, 150, 151, 152, 153, 154, 155, 156, 157, 158, 159, 160, 161, 162, 163, 164, 165, 166, 167, 168, 169, 170, 171, 172, 173, 174, 175, 176, 177, 178, 35, 179, 180, 181, 182, 183, 184, 185, 186, 187, 188, 189, 190, 191, 192, 193, 194, 195, 196, 197, 198, 199, 200, 201, 202, 203, 204, 205, 206, 207, 208, 209, 210, 211, 212, 213, 214, 215, 216, 217, 599, 600, 601, 602, 603, 604, 605, 606, 607, 608] rfl (by decide +kernel)) (goodIn_sub (fun _ h => List.mem_append_left _ (List.mem_append_left _ (List.mem_append_right _ h))) (by decide +kernel))
set_option maxRecDepth 200000 in
theorem gL_law_L_areLines : GoodIn wsL_law (va_wsS RL 220 yL_areLines wsL_areLines) := goodIn_app (goodIn_of _ (by decide +kernel)) ggL_law_L_areLines
set_option maxRecDepth 200000 in
theorem ggL_law_L_cell : GoodIn wsL_law wsL_cell := goodIn_r _ [220, 221] rfl (by decide +kernel)
set_option maxRecDepth 200000 in
theorem gL_law_L_cell : GoodIn wsL_law (va_wsS RL 223 yL_cell wsL_cell) := goodIn_app (goodIn_of _ (by decide +kernel)) ggL_law_L_cell
set_option maxRecDepth 200000 in
theorem ggL_law_L_acts : GoodIn wsL_law wsL_acts := goodIn_ca (goodIn_ca (goodIn_ca (goodIn_r _ [224, 98, 99, 58, 100, 101, 225, 226, 227, 228, 229, 230, 231, 232, 233, 3, 77, 78, 79, 80, 81, 82, 83, 84, 85, 86, 87, 88, 234, 235, 236, 237, 238, 239, 240, 2, 241, 242, 243, 15, 19, 244, 245, 246, 112, 113, 247, 248, 249, 250, 251, 252, 253, 254, 255, 256, 257, 14, 258, 68, 259, 260, 261, 262, 263, 147, 148, 149, 150, 151, 152, 153, 34, 154, 155, 156, 157, 36, 264, 265, 266, 18, 267, 268, 269, 270, 271, 272, 273, 42, 274, 275, 276, 277, 278, 279, 280, 32, 33, 281, 282, 283, 284, 35, 285, 286, 287, 288, 289, 290, 291, 292, 134, 135, 136, 137, 114, 115, 116, 117, 293, 294, 295, 296, 297, 298, 299, 300, 301, 302, 303, 143, 144, 145, 304, 305, 306, 307, 215, 163, 164, 216, 161, 162, 308, 309, 310, 311, 312, 313, 314, 315, 316, 317, 318, 319, 320, 321, 322, 323, 324, 325, 326, 327, 328, 329, 330, 331, 332, 333, 334, 335, 336, 185, 337, 338, 339, 340, 341, 342, 343, 344, 345, 346, 202, 203, 204, 205, 347, 348, 349, 199, 200, 201, 350, 351, 352, 353, 354, 210, 197, 211, 355, 196, 198, 356, 357, 358, 359, 360, 361, 362, 363, 206, 364, 365, 366, 195, 187, 65, 66, 67, 191, 176, 177, 178, 192, 193, 194, 207, 208, 209, 212, 213, 214, 217, 74, 75, 76, 367, 368, 369, 370, 371, 372, 373, 374, 375, 376, 377, 378, 379, 380, 381, 382, 383, 384, 385, 386, 387, 388, 389, 105, 106, 107, 390, 391, 392, 393, 394, 395, 396, 397, 398, 399, 400, 401, 402, 403, 404, 405, 64, 406, 407, 408, 409, 410, 127, 128, 129, 411, 412, 413, 414, 415, 416, 417, 418, 73, 419, 420, 421, 422, 423, 424, 425, 426, 427, 428, 429, 430, 431, 432, 433, 434, 92, 93, 94, 435, 436, 437, 438, 439, 440, 89, 90, 91, 95, 96, 97, 441, 442, 443, 444, 445, 446, 447, 448, 449, 119, 120, 121, 122, 123, 124, 125, 126, 450, 171, 172, 173, 174, 175, 451, 452, 453, 599, 600, 601, 602, 603, 604, 605, 606, 607, 608, 609, 610, 611, 612, 613] rfl (by decide +kernel)) (goodIn_sub (fun _ h => List.mem_append_left _ (List.mem_append_right _ h)) (by decide +kernel))) (goodIn_sub (fun _ h => List.mem_append_left _ (List.mem_append_left _ (List.mem_append_right _ h))) (by decide +kernel))) (goodIn_sub (fun _ h => List.mem_append_right _ h) (by decide +kernel))
set_option maxRecDepth 200000 in
theorem gL_law_L_acts : GoodIn wsL_law (va_wsS RL 226 yL_acts wsL_acts) := goodIn_app (goodIn_of _ (by decide +kernel)) ggL_law_L_acts
set_option maxRecDepth 200000 in
theorem ggL_law_L_low : GoodIn wsL_law wsL_low := goodIn_r _ [100, 101] rfl (by decide +kernel)
set_option maxRecDepth 200000 in
theorem gL_law_L_low : GoodIn wsL_law (va_wsS RL 133 yL_low wsL_low) := goodIn_app (goodIn_of _ (by decide +kernel)) ggL_law_L_low
set_option maxRecDepth 200000 in
theorem ggL_law_L_isLine : GoodIn wsL_law wsL_isLine := goodIn_ca (goodIn_ca (goodIn_r _ [456, 3, 457, 77, 78, 58, 79, 80, 81, 82, 83, 84, 85, 86, 87, 88, 458, 459, 460, 2, 461, 15, 134, 135, 136, 137, 112, 113, 114, 115, 116, 14, 117, 68, 410, 127, 128, 129, 33, 462, 463, 464, 465, 466, 151, 152, 153, 34, 467, 468, 469, 470, 322, 143, 144, 145, 36, 105, 106, 107, 471, 472, 473, 474, 475, 203, 204, 205, 92, 93, 94, 476, 477, 478, 479, 376, 176, 177, 178, 35, 429, 430, 431, 432, 433, 434, 435, 436, 437, 438, 439, 440, 89, 90, 91, 95, 96, 97, 480, 481, 482, 483, 327, 328, 329, 330, 331, 332, 333, 334, 484, 155, 156, 157, 485, 486, 487, 488, 489, 351, 352, 353, 354, 210, 197, 211, 355, 196, 198, 356, 357, 358, 359, 303, 150, 490, 491, 492, 493, 371, 348, 185, 349, 341, 342, 343, 344, 345, 346, 202, 199, 200, 201, 350, 494, 495, 496, 497, 335, 336, 337, 338, 339, 340, 347, 360, 361, 362, 363, 206, 161, 162, 163, 164, 364, 365, 366, 195, 187, 65, 66, 67, 191, 192, 193, 194, 207, 208, 209, 212, 213, 214, 215, 216, 217, 74, 75, 76, 32, 498, 499, 500, 102, 103, 104, 501, 502, 503, 504, 505, 506, 507, 508, 509, 510, 511, 512, 381, 382, 383, 426, 427, 428, 513, 514, 515, 516, 517, 518, 519, 520, 521, 522, 523, 524, 525, 526, 527, 528, 529, 530, 140, 531, 166, 532, 533, 139, 141, 142, 146, 147, 148, 149, 154, 158, 159, 160, 165, 534, 535, 536, 537, 538, 539, 540, 541, 542, 543, 312, 313, 544, 545, 546, 547, 548, 549, 550, 551, 552, 553, 554, 555, 293, 294, 295, 253, 254, 296, 297, 298, 299, 300, 301, 302, 304, 305, 306, 307, 247, 248, 249, 259, 260, 261, 262, 263, 308, 309, 310, 311, 314, 315, 316, 317, 387, 388, 389, 231, 232, 233, 98, 99, 100, 101, 556, 557, 558, 559, 244, 245, 246, 138, 560, 561, 562, 563, 27, 564, 565, 566, 26, 567, 54, 568, 569, 570, 571, 572, 573, 574, 575, 576, 577, 578, 579, 580, 581, 582, 583, 584, 585, 55, 586, 587, 588, 589, 590, 591, 592, 593, 594, 595, 596, 597, 598, 599, 600, 601, 602, 603, 604, 605, 606, 607, 608, 622, 623, 624] rfl (by decide +kernel)) (goodIn_sub (fun _ h => List.mem_append_left _ (List.mem_append_left _ (List.mem_append_right _ h))) (by decide +kernel))) (goodIn_sub (fun _ h => List.mem_append_right _ h) (by decide +kernel))
set_option maxRecDepth 200000 in
theorem gL_law_L_isLine : GoodIn wsL_law (va_wsS RL 229 yL_isLine wsL_isLine) := goodIn_app (goodIn_of _ (by decide +kernel)) ggL_law_L_isLine
theorem dL_law_0 : decode cL_law 0 = .ok (.new 64, 3) := by decide +kernel
theorem dL_law_3 : decode cL_law 3 = .ok (.dup, 1) := by decide +kernel
theorem dL_law_4 : decode cL_law 4 = .ok (.invokespecial 219, 3) := by decide +kernel
theorem dL_law_7 : decode cL_law 7 = .ok (.astore_n 1, 1) := by decide +kernel
theorem dL_law_8 : decode cL_law 8 = .ok (.bipush 34, 2) := by decide +kernel
theorem dL_law_10 : decode cL_law 10 = .ok (.newarray .int, 2) := by decide +kernel
theorem dL_law_12 : decode cL_law 12 = .ok (.astore_n 2, 1) := by decide +kernel
theorem dL_law_13 : decode cL_law 13 = .ok (.bipush 24, 2) := by decide +kernel
theorem dL_law_15 : decode cL_law 15 = .ok (.newarray .long, 2) := by decide +kernel
theorem dL_law_17 : decode cL_law 17 = .ok (.astore_n 3, 1) := by decide +kernel
theorem dL_law_18 : decode cL_law 18 = .ok (.aload_n 2, 1) := by decide +kernel
theorem dL_law_19 : decode cL_law 19 = .ok (.bipush 33, 2) := by decide +kernel
theorem dL_law_21 : decode cL_law 21 = .ok (.iconst 2, 1) := by decide +kernel
theorem dL_law_22 : decode cL_law 22 = .ok (.iastore, 1) := by decide +kernel
theorem dL_law_23 : decode cL_law 23 = .ok (.aload_n 1, 1) := by decide +kernel
theorem dL_law_24 : decode cL_law 24 = .ok (.aload_n 2, 1) := by decide +kernel
theorem dL_law_25 : decode cL_law 25 = .ok (.aload_n 3, 1) := by decide +kernel
theorem dL_law_26 : decode cL_law 26 = .ok (.iconst 0, 1) := by decide +kernel
theorem dL_law_27 : decode cL_law 27 = .ok (.invokestatic 220, 3) := by decide +kernel
theorem dL_law_30 : decode cL_law 30 = .ok (.istore 4, 2) := by decide +kernel
theorem dL_law_32 : decode cL_law 32 = .ok (.iconst 0, 1) := by decide +kernel
theorem dL_law_33 : decode cL_law 33 = .ok (.istore 5, 2) := by decide +kernel
theorem dL_law_35 : decode cL_law 35 = .ok (.iload 5, 2) := by decide +kernel
theorem dL_law_37 : decode cL_law 37 = .ok (.bipush 30, 2) := by decide +kernel
theorem dL_law_39 : decode cL_law 39 = .ok (.if_icmp .ge 101, 3) := by decide +kernel
theorem dL_law_42 : decode cL_law 42 = .ok (.iload 4, 2) := by decide +kernel
theorem dL_law_44 : decode cL_law 44 = .ok (.ifCond .eq 96, 3) := by decide +kernel
theorem dL_law_47 : decode cL_law 47 = .ok (.aload_n 0, 1) := by decide +kernel
theorem dL_law_48 : decode cL_law 48 = .ok (.iconst 2, 1) := by decide +kernel
theorem dL_law_49 : decode cL_law 49 = .ok (.iload 5, 2) := by decide +kernel
theorem dL_law_51 : decode cL_law 51 = .ok (.imul, 1) := by decide +kernel
theorem dL_law_52 : decode cL_law 52 = .ok (.invokestatic 223, 3) := by decide +kernel
theorem dL_law_55 : decode cL_law 55 = .ok (.aload_n 0, 1) := by decide +kernel
theorem dL_law_56 : decode cL_law 56 = .ok (.iconst 2, 1) := by decide +kernel
theorem dL_law_57 : decode cL_law 57 = .ok (.iload 5, 2) := by decide +kernel
theorem dL_law_59 : decode cL_law 59 = .ok (.imul, 1) := by decide +kernel
theorem dL_law_60 : decode cL_law 60 = .ok (.iconst 1, 1) := by decide +kernel
theorem dL_law_61 : decode cL_law 61 = .ok (.iadd, 1) := by decide +kernel
theorem dL_law_62 : decode cL_law 62 = .ok (.invokestatic 223, 3) := by decide +kernel
theorem dL_law_65 : decode cL_law 65 = .ok (.bipush 7, 2) := by decide +kernel
theorem dL_law_67 : decode cL_law 67 = .ok (.ishl, 1) := by decide +kernel
theorem dL_law_68 : decode cL_law 68 = .ok (.ixor, 1) := by decide +kernel
theorem dL_law_69 : decode cL_law 69 = .ok (.istore 6, 2) := by decide +kernel
theorem dL_law_71 : decode cL_law 71 = .ok (.aload_n 1, 1) := by decide +kernel
theorem dL_law_72 : decode cL_law 72 = .ok (.aload_n 2, 1) := by decide +kernel
theorem dL_law_73 : decode cL_law 73 = .ok (.aload_n 3, 1) := by decide +kernel
theorem dL_law_74 : decode cL_law 74 = .ok (.iload 6, 2) := by decide +kernel
theorem dL_law_76 : decode cL_law 76 = .ok (.invokestatic 226, 3) := by decide +kernel
theorem dL_law_79 : decode cL_law 79 = .ok (.ifCond .eq 52, 3) := by decide +kernel
theorem dL_law_82 : decode cL_law 82 = .ok (.aload_n 1, 1) := by decide +kernel
theorem dL_law_83 : decode cL_law 83 = .ok (.aload_n 2, 1) := by decide +kernel
theorem dL_law_84 : decode cL_law 84 = .ok (.aload_n 3, 1) := by decide +kernel
theorem dL_law_85 : decode cL_law 85 = .ok (.iload 6, 2) := by decide +kernel
theorem dL_law_87 : decode cL_law 87 = .ok (.iconst 4, 1) := by decide +kernel
theorem dL_law_88 : decode cL_law 88 = .ok (.ishr, 1) := by decide +kernel
theorem dL_law_89 : decode cL_law 89 = .ok (.invokestatic 220, 3) := by decide +kernel
theorem dL_law_92 : decode cL_law 92 = .ok (.ifCond .eq 39, 3) := by decide +kernel
theorem dL_law_95 : decode cL_law 95 = .ok (.aload_n 2, 1) := by decide +kernel
theorem dL_law_96 : decode cL_law 96 = .ok (.bipush 32, 2) := by decide +kernel
theorem dL_law_98 : decode cL_law 98 = .ok (.iaload, 1) := by decide +kernel
theorem dL_law_99 : decode cL_law 99 = .ok (.ifCond .eq 28, 3) := by decide +kernel
theorem dL_law_102 : decode cL_law 102 = .ok (.aload_n 1, 1) := by decide +kernel
theorem dL_law_103 : decode cL_law 103 = .ok (.aload_n 2, 1) := by decide +kernel
theorem dL_law_104 : decode cL_law 104 = .ok (.aload_n 3, 1) := by decide +kernel
theorem dL_law_105 : decode cL_law 105 = .ok (.iload 6, 2) := by decide +kernel
theorem dL_law_107 : decode cL_law 107 = .ok (.bipush 6, 2) := by decide +kernel
theorem dL_law_109 : decode cL_law 109 = .ok (.ishr, 1) := by decide +kernel
theorem dL_law_110 : decode cL_law 110 = .ok (.aload_n 2, 1) := by decide +kernel
theorem dL_law_111 : decode cL_law 111 = .ok (.bipush 32, 2) := by decide +kernel
theorem dL_law_113 : decode cL_law 113 = .ok (.iaload, 1) := by decide +kernel
theorem dL_law_114 : decode cL_law 114 = .ok (.invokestatic 133, 3) := by decide +kernel
theorem dL_law_117 : decode cL_law 117 = .ok (.iload 6, 2) := by decide +kernel
theorem dL_law_119 : decode cL_law 119 = .ok (.iconst 1, 1) := by decide +kernel
theorem dL_law_120 : decode cL_law 120 = .ok (.ishr, 1) := by decide +kernel
theorem dL_law_121 : decode cL_law 121 = .ok (.invokestatic 229, 3) := by decide +kernel
theorem dL_law_124 : decode cL_law 124 = .ok (.ifCond .eq 7, 3) := by decide +kernel
theorem dL_law_127 : decode cL_law 127 = .ok (.iconst 1, 1) := by decide +kernel
theorem dL_law_128 : decode cL_law 128 = .ok (.goto 4, 3) := by decide +kernel
theorem dL_law_131 : decode cL_law 131 = .ok (.iconst 0, 1) := by decide +kernel
theorem dL_law_132 : decode cL_law 132 = .ok (.istore 4, 2) := by decide +kernel
theorem dL_law_134 : decode cL_law 134 = .ok (.iinc 5 1, 3) := by decide +kernel
theorem dL_law_137 : decode cL_law 137 = .ok (.goto (-102), 3) := by decide +kernel
theorem dL_law_140 : decode cL_law 140 = .ok (.iconst 0, 1) := by decide +kernel
theorem dL_law_141 : decode cL_law 141 = .ok (.istore 5, 2) := by decide +kernel
theorem dL_law_143 : decode cL_law 143 = .ok (.iload 5, 2) := by decide +kernel
theorem dL_law_145 : decode cL_law 145 = .ok (.aload_n 2, 1) := by decide +kernel
theorem dL_law_146 : decode cL_law 146 = .ok (.bipush 32, 2) := by decide +kernel
theorem dL_law_148 : decode cL_law 148 = .ok (.iaload, 1) := by decide +kernel
theorem dL_law_149 : decode cL_law 149 = .ok (.if_icmp .ge 29, 3) := by decide +kernel
theorem dL_law_152 : decode cL_law 152 = .ok (.iload 4, 2) := by decide +kernel
theorem dL_law_154 : decode cL_law 154 = .ok (.ifCond .eq 24, 3) := by decide +kernel
theorem dL_law_157 : decode cL_law 157 = .ok (.aload_n 1, 1) := by decide +kernel
theorem dL_law_158 : decode cL_law 158 = .ok (.aload_n 2, 1) := by decide +kernel
theorem dL_law_159 : decode cL_law 159 = .ok (.aload_n 3, 1) := by decide +kernel
theorem dL_law_160 : decode cL_law 160 = .ok (.iload 5, 2) := by decide +kernel
theorem dL_law_162 : decode cL_law 162 = .ok (.ldc 232, 2) := by decide +kernel
theorem dL_law_164 : decode cL_law 164 = .ok (.iload 5, 2) := by decide +kernel
theorem dL_law_166 : decode cL_law 166 = .ok (.ishr, 1) := by decide +kernel
theorem dL_law_167 : decode cL_law 167 = .ok (.invokestatic 229, 3) := by decide +kernel
theorem dL_law_170 : decode cL_law 170 = .ok (.istore 4, 2) := by decide +kernel
theorem dL_law_172 : decode cL_law 172 = .ok (.iinc 5 1, 3) := by decide +kernel
theorem dL_law_175 : decode cL_law 175 = .ok (.goto (-32), 3) := by decide +kernel
theorem dL_law_178 : decode cL_law 178 = .ok (.iload 4, 2) := by decide +kernel
theorem dL_law_180 : decode cL_law 180 = .ok (.ireturn, 1) := by decide +kernel
