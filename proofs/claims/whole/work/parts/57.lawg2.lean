set_option maxRecDepth 200000 in
theorem ggL_law_X7_labelOf : GoodIn wsL_law wsX7_labelOf := goodIn_r _ [697, 552, 553, 554, 5, 555, 147, 172, 173, 174, 175, 63, 155, 156, 157, 162, 163, 164, 165, 556, 557, 558, 559, 1175, 1176, 1177, 1178, 1179, 1180, 1181, 1182, 1183, 1184, 1185, 1186, 1187] rfl (by decide +kernel)
set_option maxRecDepth 200000 in
theorem gL_law_X7_labelOf : GoodIn wsL_law (wsV RL 207 RX7 yX7_labelOf wsX7_labelOf) := goodIn_app (goodIn_of _ (by decide +kernel)) ggL_law_X7_labelOf
set_option maxRecDepth 200000 in
theorem ggL_law_L_isTurned : GoodIn wsL_law wsL_isTurned := goodIn_ca (goodIn_r _ [700, 71, 701, 702, 703, 2, 704, 17, 281, 282, 283, 284, 83, 84, 285, 286, 287, 16, 288, 97, 471, 443, 444, 445, 38, 705, 706, 396, 707, 436, 111, 112, 113, 37, 39, 414, 415, 416, 407, 408, 409, 410, 36, 308, 309, 1171, 1172, 1173, 1174, 1188, 1189, 1190, 1191, 1192, 1193] rfl (by decide +kernel)) (goodIn_sub (fun _ h => List.mem_append_left _ (List.mem_append_right _ h)) (by decide +kernel))
set_option maxRecDepth 200000 in
theorem gL_law_L_isTurned : GoodIn wsL_law (va_wsS RL 208 yL_isTurned wsL_isTurned) := goodIn_app (goodIn_of _ (by decide +kernel)) ggL_law_L_isTurned
set_option maxRecDepth 200000 in
theorem ggL_law_X7_isTurned : GoodIn wsL_law wsX7_isTurned := goodIn_r _ [711, 611, 612, 613, 5, 614, 147, 172, 173, 174, 175, 63, 155, 156, 157, 712, 713, 714, 715, 162, 163, 164, 165, 716, 717, 718, 719, 207, 208, 209, 210, 188, 189, 190, 191, 166, 167, 168, 169, 170, 171, 1175, 1176, 1177, 1178, 1179, 1180, 1181, 1182, 1183, 1184, 1185, 1186, 1187] rfl (by decide +kernel)
set_option maxRecDepth 200000 in
theorem gL_law_X7_isTurned : GoodIn wsL_law (wsV RL 210 RX7 yX7_isTurned wsX7_isTurned) := goodIn_app (goodIn_of _ (by decide +kernel)) ggL_law_X7_isTurned
set_option maxRecDepth 200000 in
theorem ggL_law_L_readFrom : GoodIn wsL_law wsL_readFrom := goodIn_ca (goodIn_r _ [722, 71, 723, 724, 725, 2, 726, 17, 281, 282, 283, 284, 83, 84, 285, 286, 287, 16, 288, 97, 471, 443, 444, 445, 38, 705, 706, 396, 707, 436, 111, 112, 113, 37, 39, 414, 415, 416, 407, 408, 409, 410, 36, 308, 309, 727, 579, 1171, 1172, 1173, 1174, 1188, 1189, 1190, 1191, 1192, 1193] rfl (by decide +kernel)) (goodIn_sub (fun _ h => List.mem_append_left _ (List.mem_append_right _ h)) (by decide +kernel))
set_option maxRecDepth 200000 in
theorem gL_law_L_readFrom : GoodIn wsL_law (va_wsS RL 211 yL_readFrom wsL_readFrom) := goodIn_app (goodIn_of _ (by decide +kernel)) ggL_law_L_readFrom
set_option maxRecDepth 200000 in
theorem ggL_law_X7_readFrom : GoodIn wsL_law wsX7_readFrom := goodIn_r _ [731, 611, 612, 613, 5, 614, 147, 172, 173, 174, 175, 63, 155, 156, 157, 162, 163, 164, 165, 712, 713, 714, 715, 716, 717, 718, 719, 207, 208, 209, 210, 188, 189, 190, 191, 166, 167, 168, 169, 170, 171, 1175, 1176, 1177, 1178, 1179, 1180, 1181, 1182, 1183, 1184, 1185, 1186, 1187] rfl (by decide +kernel)
set_option maxRecDepth 200000 in
theorem gL_law_X7_readFrom : GoodIn wsL_law (wsV RL 213 RX7 yX7_readFrom wsX7_readFrom) := goodIn_app (goodIn_of _ (by decide +kernel)) ggL_law_X7_readFrom
set_option maxRecDepth 200000 in
theorem ggL_law_L_sizeOf : GoodIn wsL_law wsL_sizeOf := goodIn_ca (goodIn_r _ [734, 71, 735, 736, 737, 2, 738, 17, 281, 282, 283, 284, 83, 84, 285, 286, 287, 16, 288, 97, 739, 408, 409, 410, 36, 1171, 1172, 1173, 1174, 1188, 1189, 1190, 1191, 1192, 1193] rfl (by decide +kernel)) (goodIn_sub (fun _ h => List.mem_append_left _ (List.mem_append_right _ h)) (by decide +kernel))
set_option maxRecDepth 200000 in
theorem gL_law_L_sizeOf : GoodIn wsL_law (va_wsS RL 214 yL_sizeOf wsL_sizeOf) := goodIn_app (goodIn_of _ (by decide +kernel)) ggL_law_L_sizeOf
set_option maxRecDepth 200000 in
theorem ggL_law_X7_sizeOf : GoodIn wsL_law wsX7_sizeOf := goodIn_r _ [743, 611, 612, 613, 5, 614, 147, 172, 173, 174, 175, 63, 155, 156, 157, 207, 208, 209, 210, 162, 163, 164, 165, 1175, 1176, 1177, 1178, 1179, 1180, 1181, 1182, 1183, 1184, 1185, 1186, 1187] rfl (by decide +kernel)
set_option maxRecDepth 200000 in
theorem gL_law_X7_sizeOf : GoodIn wsL_law (wsV RL 216 RX7 yX7_sizeOf wsX7_sizeOf) := goodIn_app (goodIn_of _ (by decide +kernel)) ggL_law_X7_sizeOf
set_option maxRecDepth 200000 in
theorem ggL_law_L_bendOf : GoodIn wsL_law wsL_bendOf := goodIn_ca (goodIn_r _ [746, 71, 747, 748, 749, 2, 750, 17, 386, 387, 388, 389, 83, 84, 390, 391, 392, 16, 393, 97, 37, 459, 412, 396, 413, 401, 402, 403, 404, 107, 108, 109, 405, 300, 301, 302, 39, 406, 407, 408, 409, 410, 36, 414, 415, 416, 417, 418, 419, 420, 421, 422, 423, 424, 425, 426, 427, 428, 429, 430, 431, 299, 106, 1171, 1172, 1173, 1174, 1188, 1189, 1190, 1191, 1192, 1193] rfl (by decide +kernel)) (goodIn_sub (fun _ h => List.mem_append_left _ (List.mem_append_right _ h)) (by decide +kernel))
set_option maxRecDepth 200000 in
theorem gL_law_L_bendOf : GoodIn wsL_law (va_wsS RL 217 yL_bendOf wsL_bendOf) := goodIn_app (goodIn_of _ (by decide +kernel)) ggL_law_L_bendOf
set_option maxRecDepth 200000 in
theorem ggL_law_X7_bendOf : GoodIn wsL_law wsX7_bendOf := goodIn_r _ [754, 584, 585, 586, 5, 587, 147, 172, 173, 174, 175, 63, 155, 156, 157, 162, 163, 164, 165, 203, 204, 205, 206, 207, 208, 209, 210, 180, 181, 182, 183, 184, 185, 186, 187, 188, 189, 190, 191, 166, 167, 168, 169, 170, 171, 211, 212, 213, 214, 215, 216, 217, 218, 219, 220, 221, 222, 223, 224, 1175, 1176, 1177, 1178, 1179, 1180, 1181, 1182, 1183, 1184, 1185, 1186, 1187] rfl (by decide +kernel)
set_option maxRecDepth 200000 in
theorem gL_law_X7_bendOf : GoodIn wsL_law (wsV RL 219 RX7 yX7_bendOf wsX7_bendOf) := goodIn_app (goodIn_of _ (by decide +kernel)) ggL_law_X7_bendOf
set_option maxRecDepth 200000 in
theorem ggL_law_L_whyNotLabelled : GoodIn wsL_law wsL_whyNotLabelled := goodIn_ca (goodIn_r _ [757, 71, 758, 759, 760, 2, 761, 17, 386, 387, 388, 389, 83, 84, 390, 391, 392, 16, 393, 97, 37, 394, 395, 396, 397, 398, 399, 400, 401, 402, 403, 404, 107, 108, 109, 405, 300, 301, 302, 39, 406, 407, 408, 409, 410, 36, 411, 412, 413, 414, 415, 416, 417, 418, 419, 420, 421, 422, 423, 424, 425, 426, 427, 428, 429, 430, 431, 299, 106, 432, 433, 434, 435, 436, 111, 112, 113, 311, 312, 308, 309, 437, 438, 439, 440, 441, 349, 350, 351, 442, 443, 444, 445, 38, 446, 447, 448, 449, 450, 451, 452, 453, 454, 307, 310, 455, 456, 457, 458, 34, 1171, 1172, 1173, 1174, 1188, 1189, 1190, 1191, 1192, 1193] rfl (by decide +kernel)) (goodIn_sub (fun _ h => List.mem_append_left _ (List.mem_append_right _ h)) (by decide +kernel))
set_option maxRecDepth 200000 in
theorem gL_law_L_whyNotLabelled : GoodIn wsL_law (va_wsS RL 220 yL_whyNotLabelled wsL_whyNotLabelled) := goodIn_app (goodIn_of _ (by decide +kernel)) ggL_law_L_whyNotLabelled
set_option maxRecDepth 200000 in
theorem ggL_law_X7_whyNotLabelled : GoodIn wsL_law wsX7_whyNotLabelled := goodIn_r _ [765, 584, 585, 586, 5, 587, 147, 172, 173, 174, 175, 63, 155, 156, 157, 162, 163, 164, 165, 199, 200, 201, 202, 203, 204, 205, 206, 207, 208, 209, 210, 180, 181, 182, 183, 184, 185, 186, 187, 188, 189, 190, 191, 166, 167, 168, 169, 170, 171, 211, 212, 213, 214, 215, 216, 217, 218, 219, 220, 221, 222, 223, 224, 225, 226, 227, 228, 229, 230, 231, 232, 233, 234, 235, 236, 1175, 1176, 1177, 1178, 1179, 1180, 1181, 1182, 1183, 1184, 1185, 1186, 1187] rfl (by decide +kernel)
set_option maxRecDepth 200000 in
theorem gL_law_X7_whyNotLabelled : GoodIn wsL_law (wsV RL 222 RX7 yX7_whyNotLabelled wsX7_whyNotLabelled) := goodIn_app (goodIn_of _ (by decide +kernel)) ggL_law_X7_whyNotLabelled
set_option maxRecDepth 200000 in
theorem ggL_law_L_placesOf : GoodIn wsL_law wsL_placesOf := goodIn_ca (goodIn_r _ [768, 71, 769, 770, 771, 2, 772, 17, 281, 282, 283, 284, 83, 84, 285, 286, 287, 16, 288, 97, 773, 774, 396, 775, 404, 107, 108, 109, 37, 776, 395, 397, 398, 399, 400, 401, 402, 403, 405, 300, 301, 302, 39, 406, 391, 392, 393, 407, 408, 409, 410, 36, 411, 412, 413, 414, 415, 416, 417, 418, 419, 420, 421, 422, 423, 424, 425, 426, 427, 428, 429, 430, 431, 299, 106, 432, 433, 434, 435, 436, 111, 112, 113, 311, 312, 308, 309, 437, 438, 439, 440, 441, 349, 350, 351, 442, 443, 444, 445, 38, 446, 447, 448, 449, 450, 451, 452, 453, 454, 307, 310, 455, 456, 457, 458, 34, 1171, 1172, 1173, 1174, 1188, 1189, 1190, 1191, 1192, 1193] rfl (by decide +kernel)) (goodIn_sub (fun _ h => List.mem_append_left _ (List.mem_append_right _ h)) (by decide +kernel))
set_option maxRecDepth 200000 in
theorem gL_law_L_placesOf : GoodIn wsL_law (va_wsS RL 223 yL_placesOf wsL_placesOf) := goodIn_app (goodIn_of _ (by decide +kernel)) ggL_law_L_placesOf
set_option maxRecDepth 200000 in
theorem ggL_law_X7_placesOf : GoodIn wsL_law wsX7_placesOf := goodIn_r _ [780, 611, 612, 613, 5, 614, 147, 172, 173, 174, 175, 63, 155, 156, 157, 162, 163, 164, 165, 199, 200, 201, 202, 203, 204, 205, 206, 207, 208, 209, 210, 180, 181, 182, 183, 184, 185, 186, 187, 188, 189, 190, 191, 166, 167, 168, 169, 170, 171, 211, 212, 213, 214, 215, 216, 217, 218, 219, 220, 221, 222, 223, 224, 225, 226, 227, 228, 229, 230, 231, 232, 233, 234, 235, 236, 1175, 1176, 1177, 1178, 1179, 1180, 1181, 1182, 1183, 1184, 1185, 1186, 1187] rfl (by decide +kernel)
set_option maxRecDepth 200000 in
theorem gL_law_X7_placesOf : GoodIn wsL_law (wsV RL 225 RX7 yX7_placesOf wsX7_placesOf) := goodIn_app (goodIn_of _ (by decide +kernel)) ggL_law_X7_placesOf
set_option maxRecDepth 200000 in
theorem ggL_law_L_bestPlace : GoodIn wsL_law wsL_bestPlace := goodIn_ca (goodIn_r _ [783, 71, 784, 785, 786, 2, 787, 17, 281, 282, 283, 284, 83, 84, 285, 286, 287, 16, 288, 97, 483, 484, 396, 485, 404, 107, 108, 109, 37, 398, 399, 400, 401, 402, 403, 405, 300, 301, 302, 39, 406, 391, 392, 393, 407, 408, 409, 410, 36, 411, 412, 413, 414, 415, 416, 417, 418, 419, 420, 421, 422, 423, 424, 425, 426, 427, 428, 429, 430, 431, 299, 106, 432, 433, 434, 435, 436, 111, 112, 113, 311, 312, 308, 309, 437, 438, 439, 440, 441, 349, 350, 351, 442, 443, 444, 445, 38, 446, 447, 448, 449, 450, 451, 452, 453, 454, 307, 310, 455, 456, 457, 458, 34, 1171, 1172, 1173, 1174, 1188, 1189, 1190, 1191, 1192, 1193] rfl (by decide +kernel)) (goodIn_sub (fun _ h => List.mem_append_left _ (List.mem_append_right _ h)) (by decide +kernel))
set_option maxRecDepth 200000 in
theorem gL_law_L_bestPlace : GoodIn wsL_law (va_wsS RL 226 yL_bestPlace wsL_bestPlace) := goodIn_app (goodIn_of _ (by decide +kernel)) ggL_law_L_bestPlace
set_option maxRecDepth 200000 in
theorem ggL_law_X7_bestPlace : GoodIn wsL_law wsX7_bestPlace := goodIn_r _ [791, 611, 612, 613, 5, 614, 147, 172, 173, 174, 175, 63, 155, 156, 157, 237, 238, 239, 240, 162, 163, 164, 165, 199, 200, 201, 202, 203, 204, 205, 206, 207, 208, 209, 210, 180, 181, 182, 183, 184, 185, 186, 187, 188, 189, 190, 191, 166, 167, 168, 169, 170, 171, 211, 212, 213, 214, 215, 216, 217, 218, 219, 220, 221, 222, 223, 224, 225, 226, 227, 228, 229, 230, 231, 232, 233, 234, 235, 236, 1175, 1176, 1177, 1178, 1179, 1180, 1181, 1182, 1183, 1184, 1185, 1186, 1187] rfl (by decide +kernel)
set_option maxRecDepth 200000 in
theorem gL_law_X7_bestPlace : GoodIn wsL_law (wsV RL 228 RX7 yX7_bestPlace wsX7_bestPlace) := goodIn_app (goodIn_of _ (by decide +kernel)) ggL_law_X7_bestPlace
set_option maxRecDepth 200000 in
theorem ggL_law_X6_tooNear : GoodIn wsL_law wsX6_tooNear := goodIn_r _ [795, 17, 796, 797, 396, 798, 441, 349, 350, 16, 351, 97, 799, 800, 801, 442, 443, 444, 445, 38, 446, 447, 448, 440, 426, 423, 427, 414, 415, 416, 407, 408, 409, 410, 36, 436, 111, 112, 113, 37, 39, 449, 2, 450, 451, 422, 424, 452, 453, 454, 307, 308, 309, 310, 311, 312, 455, 456, 457, 458, 34, 1171, 1172, 1173, 1174, 1188, 1189, 1190, 1191, 1192, 1193] rfl (by decide +kernel)
set_option maxRecDepth 200000 in
theorem gL_law_X6_tooNear : GoodIn wsL_law (wsV RL 229 RX6 yX6_tooNear wsX6_tooNear) := goodIn_app (goodIn_of _ (by decide +kernel)) ggL_law_X6_tooNear
set_option maxRecDepth 200000 in
theorem ggL_law_X7_tooNear : GoodIn wsL_law wsX7_tooNear := goodIn_r _ [805, 147, 63, 162, 163, 164, 5, 165, 229, 230, 231, 232, 207, 208, 209, 210, 188, 189, 190, 191, 166, 167, 168, 155, 156, 157, 169, 170, 171, 233, 234, 235, 236, 222, 223, 224, 1175, 1176, 1177, 1178, 1179, 1180, 1181, 1182, 1183, 1184, 1185, 1186, 1187] rfl (by decide +kernel)
set_option maxRecDepth 200000 in
theorem gL_law_X7_tooNear : GoodIn wsL_law (wsV RL 232 RX7 yX7_tooNear wsX7_tooNear) := goodIn_app (goodIn_of _ (by decide +kernel)) ggL_law_X7_tooNear
set_option maxRecDepth 200000 in
theorem ggL_law_L_isWithinByRays : GoodIn wsL_law wsL_isWithinByRays := goodIn_ca (goodIn_r _ [808, 71, 809, 810, 811, 2, 812, 17, 281, 282, 283, 284, 83, 84, 285, 286, 287, 16, 288, 97, 80, 81, 82, 85, 86, 87, 813, 814, 815, 816, 817, 300, 301, 302, 37, 39, 818, 103, 104, 105, 106, 107, 108, 109, 110, 111, 112, 113, 819, 820, 821, 311, 312, 308, 309, 822, 823, 1171, 1172, 1173, 1174, 1188, 1189, 1190, 1191, 1192, 1193] rfl (by decide +kernel)) (goodIn_sub (fun _ h => List.mem_append_left _ (List.mem_append_right _ h)) (by decide +kernel))
set_option maxRecDepth 200000 in
theorem gL_law_L_isWithinByRays : GoodIn wsL_law (va_wsS RL 233 yL_isWithinByRays wsL_isWithinByRays) := goodIn_app (goodIn_of _ (by decide +kernel)) ggL_law_L_isWithinByRays
set_option maxRecDepth 200000 in
theorem ggL_law_X7_isWithinByRays : GoodIn wsL_law wsX7_isWithinByRays := goodIn_r _ [827, 147, 172, 173, 174, 5, 175, 63, 155, 156, 157, 152, 153, 154, 828, 829, 830, 831, 180, 181, 182, 183, 162, 163, 164, 165, 184, 185, 186, 187, 188, 189, 190, 191, 166, 167, 168, 169, 170, 171, 158, 159, 160, 161, 1175, 1176, 1177, 1178, 1179, 1180, 1181, 1182, 1183, 1184, 1185, 1186, 1187] rfl (by decide +kernel)
set_option maxRecDepth 200000 in
theorem gL_law_X7_isWithinByRays : GoodIn wsL_law (wsV RL 235 RX7 yX7_isWithinByRays wsX7_isWithinByRays) := goodIn_app (goodIn_of _ (by decide +kernel)) ggL_law_X7_isWithinByRays
set_option maxRecDepth 200000 in
theorem ggL_law_L_isWithinBySpreading : GoodIn wsL_law wsL_isWithinBySpreading := goodIn_ca (goodIn_r _ [834, 71, 835, 836, 837, 2, 838, 17, 29, 281, 282, 283, 284, 83, 84, 285, 286, 287, 16, 288, 97, 80, 81, 82, 85, 86, 87, 327, 300, 301, 302, 37, 39, 839, 840, 841, 28, 842, 57, 843, 107, 108, 109, 844, 111, 112, 113, 845, 846, 847, 311, 312, 308, 309, 848, 429, 430, 431, 849, 850, 851, 852, 293, 294, 853, 854, 855, 856, 857, 858, 859, 860, 58, 861, 862, 863, 864, 865, 866, 867, 868, 1171, 1172, 1173, 1174, 1188, 1189, 1190, 1191, 1192, 1193, 1207, 1208, 1209] rfl (by decide +kernel)) (goodIn_sub (fun _ h => List.mem_append_left _ (List.mem_append_right _ h)) (by decide +kernel))
set_option maxRecDepth 200000 in
theorem gL_law_L_isWithinBySpreading : GoodIn wsL_law (va_wsS RL 236 yL_isWithinBySpreading wsL_isWithinBySpreading) := goodIn_app (goodIn_of _ (by decide +kernel)) ggL_law_L_isWithinBySpreading
set_option maxRecDepth 200000 in
theorem ggL_law_X7_isWithinBySpreading : GoodIn wsL_law wsX7_isWithinBySpreading := goodIn_r _ [872, 873, 825, 826, 5, 827, 147, 172, 173, 174, 175, 63, 155, 156, 157, 152, 153, 154, 828, 829, 830, 831, 180, 181, 182, 183, 162, 163, 164, 165, 184, 185, 186, 187, 188, 189, 190, 191, 166, 167, 168, 169, 170, 171, 158, 159, 160, 161, 1175, 1176, 1177, 1178, 1179, 1180, 1181, 1182, 1183, 1184, 1185, 1186, 1187] rfl (by decide +kernel)
set_option maxRecDepth 200000 in
theorem gL_law_X7_isWithinBySpreading : GoodIn wsL_law (wsV RL 238 RX7 yX7_isWithinBySpreading wsX7_isWithinBySpreading) := goodIn_app (goodIn_of _ (by decide +kernel)) ggL_law_X7_isWithinBySpreading
set_option maxRecDepth 200000 in
theorem ggL_law_L_pointsWithin : GoodIn wsL_law wsL_pointsWithin := goodIn_ca (goodIn_r _ [876, 71, 877, 878, 879, 2, 880, 17, 281, 282, 283, 284, 83, 84, 285, 286, 287, 16, 288, 97, 813, 814, 815, 816, 817, 300, 301, 302, 37, 39, 818, 103, 104, 105, 106, 107, 108, 109, 110, 111, 112, 113, 819, 820, 821, 311, 312, 308, 309, 822, 823, 1171, 1172, 1173, 1174, 1188, 1189, 1190, 1191, 1192, 1193] rfl (by decide +kernel)) (goodIn_sub (fun _ h => List.mem_append_left _ (List.mem_append_right _ h)) (by decide +kernel))
set_option maxRecDepth 200000 in
theorem gL_law_L_pointsWithin : GoodIn wsL_law (va_wsS RL 239 yL_pointsWithin wsL_pointsWithin) := goodIn_app (goodIn_of _ (by decide +kernel)) ggL_law_L_pointsWithin
set_option maxRecDepth 200000 in
theorem ggL_law_X7_pointsWithin : GoodIn wsL_law wsX7_pointsWithin := goodIn_r _ [884, 611, 612, 613, 5, 614, 147, 172, 173, 174, 175, 63, 155, 156, 157, 828, 829, 830, 831, 180, 181, 182, 183, 162, 163, 164, 165, 184, 185, 186, 187, 188, 189, 190, 191, 166, 167, 168, 169, 170, 171, 158, 159, 160, 161, 1175, 1176, 1177, 1178, 1179, 1180, 1181, 1182, 1183, 1184, 1185, 1186, 1187] rfl (by decide +kernel)
set_option maxRecDepth 200000 in
theorem gL_law_X7_pointsWithin : GoodIn wsL_law (wsV RL 241 RX7 yX7_pointsWithin wsX7_pointsWithin) := goodIn_app (goodIn_of _ (by decide +kernel)) ggL_law_X7_pointsWithin
