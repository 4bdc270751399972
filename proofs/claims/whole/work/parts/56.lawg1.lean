set_option maxRecDepth 200000 in
theorem ggL_law_L_levelOf : GoodIn wsL_law wsL_levelOf := goodIn_ca (goodIn_r _ [543, 71, 544, 545, 546, 2, 547, 17, 281, 282, 283, 284, 83, 84, 285, 286, 287, 16, 288, 97, 363, 364, 365, 366, 36, 1171, 1172, 1173, 1174, 1188, 1189, 1190, 1191, 1192, 1193] rfl (by decide +kernel)) (goodIn_sub (fun _ h => List.mem_append_left _ (List.mem_append_right _ h)) (by decide +kernel))
set_option maxRecDepth 200000 in
theorem gL_law_L_levelOf : GoodIn wsL_law (va_wsS RL 169 yL_levelOf wsL_levelOf) := goodIn_app (goodIn_of _ (by decide +kernel)) ggL_law_L_levelOf
set_option maxRecDepth 200000 in
theorem ggL_law_X7_levelOf : GoodIn wsL_law wsX7_levelOf := goodIn_r _ [551, 552, 553, 554, 5, 555, 147, 172, 173, 174, 175, 63, 155, 156, 157, 162, 163, 164, 165, 556, 557, 558, 559, 1175, 1176, 1177, 1178, 1179, 1180, 1181, 1182, 1183, 1184, 1185, 1186, 1187] rfl (by decide +kernel)
set_option maxRecDepth 200000 in
theorem gL_law_X7_levelOf : GoodIn wsL_law (wsV RL 171 RX7 yX7_levelOf wsX7_levelOf) := goodIn_app (goodIn_of _ (by decide +kernel)) ggL_law_X7_levelOf
set_option maxRecDepth 200000 in
theorem ggL_law_L_stepsOf : GoodIn wsL_law wsL_stepsOf := goodIn_ca (goodIn_r _ [562, 71, 563, 564, 565, 2, 566, 17, 281, 282, 283, 284, 83, 84, 285, 286, 287, 16, 288, 97, 567, 107, 108, 109, 37, 1171, 1172, 1173, 1174, 1188, 1189, 1190, 1191, 1192, 1193] rfl (by decide +kernel)) (goodIn_sub (fun _ h => List.mem_append_left _ (List.mem_append_right _ h)) (by decide +kernel))
set_option maxRecDepth 200000 in
theorem gL_law_L_stepsOf : GoodIn wsL_law (va_wsS RL 172 yL_stepsOf wsL_stepsOf) := goodIn_app (goodIn_of _ (by decide +kernel)) ggL_law_L_stepsOf
set_option maxRecDepth 200000 in
theorem ggL_law_X7_stepsOf : GoodIn wsL_law wsX7_stepsOf := goodIn_r _ [571, 552, 553, 554, 5, 555, 147, 172, 173, 174, 175, 63, 155, 156, 157, 162, 163, 164, 165, 556, 557, 558, 559, 1175, 1176, 1177, 1178, 1179, 1180, 1181, 1182, 1183, 1184, 1185, 1186, 1187] rfl (by decide +kernel)
set_option maxRecDepth 200000 in
theorem gL_law_X7_stepsOf : GoodIn wsL_law (wsV RL 174 RX7 yX7_stepsOf wsX7_stepsOf) := goodIn_app (goodIn_of _ (by decide +kernel)) ggL_law_X7_stepsOf
set_option maxRecDepth 200000 in
theorem ggL_law_L_pointOf : GoodIn wsL_law wsL_pointOf := goodIn_ca (goodIn_r _ [574, 71, 575, 576, 577, 2, 578, 17, 386, 387, 388, 389, 83, 84, 390, 391, 392, 16, 393, 97, 37, 579, 111, 112, 113, 39, 1171, 1172, 1173, 1174, 1188, 1189, 1190, 1191, 1192, 1193] rfl (by decide +kernel)) (goodIn_sub (fun _ h => List.mem_append_left _ (List.mem_append_right _ h)) (by decide +kernel))
set_option maxRecDepth 200000 in
theorem gL_law_L_pointOf : GoodIn wsL_law (va_wsS RL 175 yL_pointOf wsL_pointOf) := goodIn_app (goodIn_of _ (by decide +kernel)) ggL_law_L_pointOf
set_option maxRecDepth 200000 in
theorem ggL_law_X7_pointOf : GoodIn wsL_law wsX7_pointOf := goodIn_r _ [583, 584, 585, 586, 5, 587, 147, 172, 173, 174, 175, 63, 155, 156, 157, 162, 163, 164, 165, 188, 189, 190, 191, 166, 167, 168, 169, 170, 171, 1175, 1176, 1177, 1178, 1179, 1180, 1181, 1182, 1183, 1184, 1185, 1186, 1187] rfl (by decide +kernel)
set_option maxRecDepth 200000 in
theorem gL_law_X7_pointOf : GoodIn wsL_law (wsV RL 177 RX7 yX7_pointOf wsX7_pointOf) := goodIn_app (goodIn_of _ (by decide +kernel)) ggL_law_X7_pointOf
set_option maxRecDepth 200000 in
theorem ggL_law_L_lineAt : GoodIn wsL_law wsL_lineAt := goodIn_ca (goodIn_r _ [590, 71, 591, 592, 593, 2, 594, 17, 80, 81, 82, 83, 84, 85, 86, 87, 595, 99, 100, 16, 101, 97, 102, 103, 104, 105, 106, 107, 108, 109, 37, 110, 111, 112, 113, 39, 1171, 1172, 1173, 1174, 1188, 1189, 1190, 1191, 1192, 1193] rfl (by decide +kernel)) (goodIn_sub (fun _ h => List.mem_append_left _ (List.mem_append_right _ h)) (by decide +kernel))
set_option maxRecDepth 200000 in
theorem gL_law_L_lineAt : GoodIn wsL_law (va_wsS RL 178 yL_lineAt wsL_lineAt) := goodIn_app (goodIn_of _ (by decide +kernel)) ggL_law_L_lineAt
set_option maxRecDepth 200000 in
theorem ggL_law_X7_lineAt : GoodIn wsL_law wsX7_lineAt := goodIn_r _ [599, 147, 152, 153, 5, 154, 155, 156, 157, 158, 159, 160, 161, 63, 162, 163, 164, 165, 166, 167, 168, 169, 170, 171, 556, 557, 558, 559, 1175, 1176, 1177, 1178, 1179, 1180, 1181, 1182, 1183, 1184, 1185, 1186, 1187] rfl (by decide +kernel)
set_option maxRecDepth 200000 in
theorem gL_law_X7_lineAt : GoodIn wsL_law (wsV RL 180 RX7 yX7_lineAt wsX7_lineAt) := goodIn_app (goodIn_of _ (by decide +kernel)) ggL_law_X7_lineAt
set_option maxRecDepth 200000 in
theorem ggL_law_L_isClosed : GoodIn wsL_law wsL_isClosed := goodIn_ca (goodIn_r _ [602, 71, 603, 604, 605, 2, 606, 17, 281, 282, 283, 284, 83, 84, 285, 286, 287, 16, 288, 97, 327, 300, 301, 302, 37, 39, 1171, 1172, 1173, 1174, 1188, 1189, 1190, 1191, 1192, 1193] rfl (by decide +kernel)) (goodIn_sub (fun _ h => List.mem_append_left _ (List.mem_append_right _ h)) (by decide +kernel))
set_option maxRecDepth 200000 in
theorem gL_law_L_isClosed : GoodIn wsL_law (va_wsS RL 181 yL_isClosed wsL_isClosed) := goodIn_app (goodIn_of _ (by decide +kernel)) ggL_law_L_isClosed
set_option maxRecDepth 200000 in
theorem ggL_law_X7_isClosed : GoodIn wsL_law wsX7_isClosed := goodIn_r _ [610, 611, 612, 613, 5, 614, 147, 172, 173, 174, 175, 63, 155, 156, 157, 180, 181, 182, 183, 162, 163, 164, 165, 184, 185, 186, 187, 188, 189, 190, 191, 166, 167, 168, 169, 170, 171, 1175, 1176, 1177, 1178, 1179, 1180, 1181, 1182, 1183, 1184, 1185, 1186, 1187] rfl (by decide +kernel)
set_option maxRecDepth 200000 in
theorem gL_law_X7_isClosed : GoodIn wsL_law (wsV RL 183 RX7 yX7_isClosed wsX7_isClosed) := goodIn_app (goodIn_of _ (by decide +kernel)) ggL_law_X7_isClosed
set_option maxRecDepth 200000 in
theorem ggL_law_L_whyNotStepped : GoodIn wsL_law wsL_whyNotStepped := goodIn_ca (goodIn_ca (goodIn_r _ [617, 71, 72, 618, 619, 620, 2, 621, 17, 281, 282, 283, 284, 83, 84, 285, 286, 287, 16, 288, 97, 289, 290, 291, 91, 92, 292, 293, 294, 295, 296, 297, 298, 299, 300, 301, 302, 37, 39, 106, 107, 108, 109, 110, 111, 112, 113, 303, 304, 305, 306, 85, 86, 87, 307, 308, 309, 310, 311, 312, 98, 99, 100, 101, 102, 103, 104, 105, 313, 314, 315, 316, 317, 318, 319, 320, 321, 322, 1171, 1172, 1173, 1174, 1188, 1189, 1190, 1191, 1192, 1193] rfl (by decide +kernel)) (goodIn_sub (fun _ h => List.mem_append_left _ (List.mem_append_right _ h)) (by decide +kernel))) (goodIn_sub (fun _ h => List.mem_append_right _ h) (by decide +kernel))
set_option maxRecDepth 200000 in
theorem gL_law_L_whyNotStepped : GoodIn wsL_law (va_wsS RL 184 yL_whyNotStepped wsL_whyNotStepped) := goodIn_app (goodIn_of _ (by decide +kernel)) ggL_law_L_whyNotStepped
set_option maxRecDepth 200000 in
theorem ggL_law_X7_whyNotStepped : GoodIn wsL_law wsX7_whyNotStepped := goodIn_r _ [625, 147, 172, 173, 174, 5, 175, 63, 155, 156, 157, 556, 557, 558, 559, 176, 177, 178, 179, 180, 181, 182, 183, 162, 163, 164, 165, 184, 185, 186, 187, 188, 189, 190, 191, 166, 167, 168, 169, 170, 171, 192, 193, 194, 158, 159, 160, 161, 195, 196, 197, 198, 1175, 1176, 1177, 1178, 1179, 1180, 1181, 1182, 1183, 1184, 1185, 1186, 1187] rfl (by decide +kernel)
set_option maxRecDepth 200000 in
theorem gL_law_X7_whyNotStepped : GoodIn wsL_law (wsV RL 186 RX7 yX7_whyNotStepped wsX7_whyNotStepped) := goodIn_app (goodIn_of _ (by decide +kernel)) ggL_law_X7_whyNotStepped
set_option maxRecDepth 200000 in
theorem ggL_law_L_bendAt : GoodIn wsL_law wsL_bendAt := goodIn_ca (goodIn_r _ [628, 71, 629, 630, 631, 2, 632, 17, 386, 387, 388, 389, 83, 84, 390, 391, 392, 16, 393, 97, 37, 633, 418, 419, 420, 421, 422, 423, 424, 425, 426, 427, 428, 429, 430, 431, 39, 299, 300, 301, 302, 106, 107, 108, 109, 1171, 1172, 1173, 1174, 1188, 1189, 1190, 1191, 1192, 1193] rfl (by decide +kernel)) (goodIn_sub (fun _ h => List.mem_append_left _ (List.mem_append_right _ h)) (by decide +kernel))
set_option maxRecDepth 200000 in
theorem gL_law_L_bendAt : GoodIn wsL_law (va_wsS RL 187 yL_bendAt wsL_bendAt) := goodIn_app (goodIn_of _ (by decide +kernel)) ggL_law_L_bendAt
set_option maxRecDepth 200000 in
theorem ggL_law_X7_bendAt : GoodIn wsL_law wsX7_bendAt := goodIn_r _ [637, 584, 585, 586, 5, 587, 147, 172, 173, 174, 175, 63, 155, 156, 157, 162, 163, 164, 165, 215, 216, 217, 218, 219, 220, 221, 222, 223, 224, 180, 181, 182, 183, 184, 185, 186, 187, 188, 189, 190, 191, 166, 167, 168, 169, 170, 171, 1175, 1176, 1177, 1178, 1179, 1180, 1181, 1182, 1183, 1184, 1185, 1186, 1187] rfl (by decide +kernel)
set_option maxRecDepth 200000 in
theorem gL_law_X7_bendAt : GoodIn wsL_law (wsV RL 189 RX7 yX7_bendAt wsX7_bendAt) := goodIn_app (goodIn_of _ (by decide +kernel)) ggL_law_X7_bendAt
set_option maxRecDepth 200000 in
theorem ggL_law_L_lengthByKinds : GoodIn wsL_law wsL_lengthByKinds := goodIn_ca (goodIn_r _ [640, 71, 641, 642, 643, 2, 644, 17, 281, 282, 283, 284, 83, 84, 285, 286, 287, 16, 288, 97, 567, 107, 108, 109, 37, 645, 429, 430, 431, 39, 646, 317, 318, 647, 648, 649, 650, 1171, 1172, 1173, 1174, 1188, 1189, 1190, 1191, 1192, 1193] rfl (by decide +kernel)) (goodIn_sub (fun _ h => List.mem_append_left _ (List.mem_append_right _ h)) (by decide +kernel))
set_option maxRecDepth 200000 in
theorem gL_law_L_lengthByKinds : GoodIn wsL_law (va_wsS RL 190 yL_lengthByKinds wsL_lengthByKinds) := goodIn_app (goodIn_of _ (by decide +kernel)) ggL_law_L_lengthByKinds
set_option maxRecDepth 200000 in
theorem ggL_law_X7_lengthByKinds : GoodIn wsL_law wsX7_lengthByKinds := goodIn_r _ [654, 655, 611, 612, 613, 5, 614, 147, 172, 173, 174, 175, 63, 155, 156, 157, 162, 163, 164, 165, 656, 657, 658, 659, 1175, 1176, 1177, 1178, 1179, 1180, 1181, 1182, 1183, 1184, 1185, 1186, 1187] rfl (by decide +kernel)
set_option maxRecDepth 200000 in
theorem gL_law_X7_lengthByKinds : GoodIn wsL_law (wsV RL 193 RX7 yX7_lengthByKinds wsX7_lengthByKinds) := goodIn_app (goodIn_of _ (by decide +kernel)) ggL_law_X7_lengthByKinds
set_option maxRecDepth 200000 in
theorem ggL_law_L_lengthBySteps : GoodIn wsL_law wsL_lengthBySteps := goodIn_ca (goodIn_r _ [662, 71, 663, 664, 665, 2, 666, 17, 281, 282, 283, 284, 83, 84, 285, 286, 287, 16, 288, 97, 567, 107, 108, 109, 37, 645, 429, 430, 431, 39, 646, 317, 318, 647, 648, 649, 650, 1171, 1172, 1173, 1174, 1188, 1189, 1190, 1191, 1192, 1193] rfl (by decide +kernel)) (goodIn_sub (fun _ h => List.mem_append_left _ (List.mem_append_right _ h)) (by decide +kernel))
set_option maxRecDepth 200000 in
theorem gL_law_L_lengthBySteps : GoodIn wsL_law (va_wsS RL 194 yL_lengthBySteps wsL_lengthBySteps) := goodIn_app (goodIn_of _ (by decide +kernel)) ggL_law_L_lengthBySteps
set_option maxRecDepth 200000 in
theorem ggL_law_X7_lengthBySteps : GoodIn wsL_law wsX7_lengthBySteps := goodIn_r _ [670, 655, 611, 612, 613, 5, 614, 147, 172, 173, 174, 175, 63, 155, 156, 157, 162, 163, 164, 165, 1175, 1176, 1177, 1178, 1179, 1180, 1181, 1182, 1183, 1184, 1185, 1186, 1187] rfl (by decide +kernel)
set_option maxRecDepth 200000 in
theorem gL_law_X7_lengthBySteps : GoodIn wsL_law (wsV RL 196 RX7 yX7_lengthBySteps wsX7_lengthBySteps) := goodIn_app (goodIn_of _ (by decide +kernel)) ggL_law_X7_lengthBySteps
set_option maxRecDepth 200000 in
theorem ggL_law_X6_gap : GoodIn wsL_law wsX6_gap := goodIn_r _ [674, 17, 524, 456, 457, 16, 458, 34, 1171, 1172, 1173, 1174, 1188, 1189, 1190, 1191, 1192, 1193] rfl (by decide +kernel)
set_option maxRecDepth 200000 in
theorem gL_law_X6_gap : GoodIn wsL_law (wsV RL 197 RX6 yX6_gap wsX6_gap) := goodIn_app (goodIn_of _ (by decide +kernel)) ggL_law_X6_gap
set_option maxRecDepth 200000 in
theorem ggL_law_X7_gap : GoodIn wsL_law wsX7_gap := goodIn_r _ [678, 147, 63, 1175, 1176, 1177, 1178, 1179, 1180, 1181, 1182, 1183, 1184, 1185, 1186, 1187] rfl (by decide +kernel)
set_option maxRecDepth 200000 in
theorem gL_law_X7_gap : GoodIn wsL_law (wsV RL 200 RX7 yX7_gap wsX7_gap) := goodIn_app (goodIn_of _ (by decide +kernel)) ggL_law_X7_gap
set_option maxRecDepth 200000 in
theorem ggL_law_X6_labels : GoodIn wsL_law wsX6_labels := goodIn_r _ [682, 17, 508, 509, 510, 16, 511, 97, 512, 443, 444, 445, 38, 1171, 1172, 1173, 1174, 1188, 1189, 1190, 1191, 1192, 1193] rfl (by decide +kernel)
set_option maxRecDepth 200000 in
theorem gL_law_X6_labels : GoodIn wsL_law (wsV RL 201 RX6 yX6_labels wsX6_labels) := goodIn_app (goodIn_of _ (by decide +kernel)) ggL_law_X6_labels
set_option maxRecDepth 200000 in
theorem ggL_law_X7_labels : GoodIn wsL_law wsX7_labels := goodIn_r _ [686, 147, 266, 267, 268, 5, 269, 63, 162, 163, 164, 165, 1175, 1176, 1177, 1178, 1179, 1180, 1181, 1182, 1183, 1184, 1185, 1186, 1187] rfl (by decide +kernel)
set_option maxRecDepth 200000 in
theorem gL_law_X7_labels : GoodIn wsL_law (wsV RL 204 RX7 yX7_labels wsX7_labels) := goodIn_app (goodIn_of _ (by decide +kernel)) ggL_law_X7_labels
set_option maxRecDepth 200000 in
theorem ggL_law_L_labelOf : GoodIn wsL_law wsL_labelOf := goodIn_ca (goodIn_r _ [689, 71, 690, 691, 692, 2, 693, 17, 281, 282, 283, 284, 83, 84, 285, 286, 287, 16, 288, 97, 471, 443, 444, 445, 38, 1171, 1172, 1173, 1174, 1188, 1189, 1190, 1191, 1192, 1193] rfl (by decide +kernel)) (goodIn_sub (fun _ h => List.mem_append_left _ (List.mem_append_right _ h)) (by decide +kernel))
set_option maxRecDepth 200000 in
theorem gL_law_L_labelOf : GoodIn wsL_law (va_wsS RL 205 yL_labelOf wsL_labelOf) := goodIn_app (goodIn_of _ (by decide +kernel)) ggL_law_L_labelOf
