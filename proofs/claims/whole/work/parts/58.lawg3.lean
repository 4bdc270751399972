set_option maxRecDepth 200000 in
theorem ggL_law_L_lineRound : GoodIn wsL_law wsL_lineRound := goodIn_ca (goodIn_r _ [887, 71, 888, 889, 890, 2, 891, 17, 281, 282, 283, 284, 83, 84, 285, 286, 287, 16, 288, 97, 892, 893, 815, 894, 823, 111, 112, 113, 37, 39, 895, 349, 350, 351, 896, 814, 816, 817, 300, 301, 302, 818, 103, 104, 105, 106, 107, 108, 109, 110, 819, 820, 821, 311, 312, 308, 309, 822, 1171, 1172, 1173, 1174, 1188, 1189, 1190, 1191, 1192, 1193] rfl (by decide +kernel)) (goodIn_sub (fun _ h => List.mem_append_left _ (List.mem_append_right _ h)) (by decide +kernel))
set_option maxRecDepth 200000 in
theorem gL_law_L_lineRound : GoodIn wsL_law (va_wsS RL 242 yL_lineRound wsL_lineRound) := goodIn_app (goodIn_of _ (by decide +kernel)) ggL_law_L_lineRound
set_option maxRecDepth 200000 in
theorem ggL_law_X7_lineRound : GoodIn wsL_law wsX7_lineRound := goodIn_r _ [900, 611, 612, 613, 5, 614, 147, 172, 173, 174, 175, 63, 155, 156, 157, 901, 902, 903, 904, 162, 163, 164, 165, 828, 829, 830, 831, 180, 181, 182, 183, 184, 185, 186, 187, 188, 189, 190, 191, 166, 167, 168, 169, 170, 171, 158, 159, 160, 161, 1175, 1176, 1177, 1178, 1179, 1180, 1181, 1182, 1183, 1184, 1185, 1186, 1187] rfl (by decide +kernel)
set_option maxRecDepth 200000 in
theorem gL_law_X7_lineRound : GoodIn wsL_law (wsV RL 244 RX7 yX7_lineRound wsX7_lineRound) := goodIn_app (goodIn_of _ (by decide +kernel)) ggL_law_X7_lineRound
set_option maxRecDepth 200000 in
theorem ggL_law_L_isSteady : GoodIn wsL_law wsL_isSteady := goodIn_ca (goodIn_r _ [907, 71, 908, 909, 910, 2, 911, 17, 451, 422, 423, 424, 281, 282, 283, 284, 83, 84, 285, 286, 287, 16, 288, 97, 892, 893, 815, 894, 823, 111, 112, 113, 37, 39, 895, 349, 350, 351, 896, 814, 816, 817, 300, 301, 302, 818, 103, 104, 105, 106, 107, 108, 109, 110, 819, 820, 821, 311, 312, 308, 309, 822, 363, 364, 365, 366, 36, 1171, 1172, 1173, 1174, 1188, 1189, 1190, 1191, 1192, 1193] rfl (by decide +kernel)) (goodIn_sub (fun _ h => List.mem_append_left _ (List.mem_append_right _ h)) (by decide +kernel))
set_option maxRecDepth 200000 in
theorem gL_law_L_isSteady : GoodIn wsL_law (va_wsS RL 245 yL_isSteady wsL_isSteady) := goodIn_app (goodIn_of _ (by decide +kernel)) ggL_law_L_isSteady
set_option maxRecDepth 200000 in
theorem ggL_law_X7_isSteady : GoodIn wsL_law wsX7_isSteady := goodIn_r _ [915, 611, 612, 613, 5, 614, 147, 172, 173, 174, 175, 63, 155, 156, 157, 901, 902, 903, 904, 162, 163, 164, 165, 828, 829, 830, 831, 180, 181, 182, 183, 184, 185, 186, 187, 188, 189, 190, 191, 166, 167, 168, 169, 170, 171, 158, 159, 160, 161, 222, 223, 224, 1175, 1176, 1177, 1178, 1179, 1180, 1181, 1182, 1183, 1184, 1185, 1186, 1187] rfl (by decide +kernel)
set_option maxRecDepth 200000 in
theorem gL_law_X7_isSteady : GoodIn wsL_law (wsV RL 247 RX7 yX7_isSteady wsX7_isSteady) := goodIn_app (goodIn_of _ (by decide +kernel)) ggL_law_X7_isSteady
set_option maxRecDepth 200000 in
theorem ggL_law_L_lineByLevel : GoodIn wsL_law wsL_lineByLevel := goodIn_ca (goodIn_r _ [918, 71, 919, 920, 921, 2, 922, 83, 84, 17, 285, 286, 287, 16, 288, 97, 923, 499, 500, 501, 502, 503, 504, 505, 506, 364, 365, 366, 36, 1171, 1172, 1173, 1174, 1188, 1189, 1190, 1191, 1192, 1193] rfl (by decide +kernel)) (goodIn_sub (fun _ h => List.mem_append_left _ (List.mem_append_right _ h)) (by decide +kernel))
set_option maxRecDepth 200000 in
theorem gL_law_L_lineByLevel : GoodIn wsL_law (va_wsS RL 248 yL_lineByLevel wsL_lineByLevel) := goodIn_app (goodIn_of _ (by decide +kernel)) ggL_law_L_lineByLevel
set_option maxRecDepth 200000 in
theorem ggL_law_X7_lineByLevel : GoodIn wsL_law wsX7_lineByLevel := goodIn_r _ [927, 147, 63, 155, 156, 5, 157, 262, 263, 264, 265, 162, 163, 164, 165, 556, 557, 558, 559, 1175, 1176, 1177, 1178, 1179, 1180, 1181, 1182, 1183, 1184, 1185, 1186, 1187] rfl (by decide +kernel)
set_option maxRecDepth 200000 in
theorem gL_law_X7_lineByLevel : GoodIn wsL_law (wsV RL 250 RX7 yX7_lineByLevel wsX7_lineByLevel) := goodIn_app (goodIn_of _ (by decide +kernel)) ggL_law_X7_lineByLevel
set_option maxRecDepth 200000 in
theorem ggL_law_L_append : GoodIn wsL_law wsL_append := goodIn_ca (goodIn_ca (goodIn_r _ [930, 72, 73, 931, 932, 933, 2, 934, 91, 92, 78, 79, 25, 935, 936, 937, 24, 938, 939, 940, 941, 942, 943, 52, 944, 945, 946, 947, 948, 1171, 1172, 1173, 1174, 1199, 1200, 1201, 1202, 1203, 1204, 1205, 1206] rfl (by decide +kernel)) (goodIn_sub (fun _ h => List.mem_append_right _ h) (by decide +kernel))) (goodIn_sub (fun _ h => List.mem_append_left _ (List.mem_append_left _ (List.mem_append_right _ h))) (by decide +kernel))
set_option maxRecDepth 200000 in
theorem gL_law_L_append : GoodIn wsL_law (va_wsS RL 251 yL_append wsL_append) := goodIn_app (goodIn_of _ (by decide +kernel)) ggL_law_L_append
set_option maxRecDepth 200000 in
theorem ggL_law_X7_append : GoodIn wsL_law wsX7_append := goodIn_r _ [952, 147, 953, 66, 155, 156, 5, 157, 556, 557, 558, 559, 1175, 1176, 1177, 1178, 1179, 1180, 1181, 1182, 1183, 1184, 1185, 1186, 1187] rfl (by decide +kernel)
set_option maxRecDepth 200000 in
theorem gL_law_X7_append : GoodIn wsL_law (wsV RL 253 RX7 yX7_append wsX7_append) := goodIn_app (goodIn_of _ (by decide +kernel)) ggL_law_X7_append
set_option maxRecDepth 200000 in
theorem ggL_law_X6_clearText : GoodIn wsL_law wsX6_clearText := goodIn_r _ [957, 25, 945, 946, 947, 24, 948, 939, 958, 959, 960, 961, 1171, 1172, 1173, 1174, 1199, 1200, 1201, 1202, 1203, 1204, 1205, 1206] rfl (by decide +kernel)
set_option maxRecDepth 200000 in
theorem gL_law_X6_clearText : GoodIn wsL_law (wsV RL 254 RX6 yX6_clearText wsX6_clearText) := goodIn_app (goodIn_of _ (by decide +kernel)) ggL_law_X6_clearText
set_option maxRecDepth 200000 in
theorem ggL_law_X7_clearText : GoodIn wsL_law wsX7_clearText := goodIn_r _ [965, 147, 953, 1175, 1176, 1177, 1178, 1179, 1180, 1181, 1182, 1183, 1184, 1185, 1186, 1187] rfl (by decide +kernel)
set_option maxRecDepth 200000 in
theorem gL_law_X7_clearText : GoodIn wsL_law (wsV RL 257 RX7 yX7_clearText wsX7_clearText) := goodIn_app (goodIn_of _ (by decide +kernel)) ggL_law_X7_clearText
set_option maxRecDepth 200000 in
theorem ggL_law_X6_errorPosition : GoodIn wsL_law wsX6_errorPosition := goodIn_r _ [969, 25, 970, 971, 972, 24, 973, 974, 975, 976, 977, 978, 939, 979, 980, 981, 982, 983, 984, 985, 986, 987, 988, 989, 990, 991, 992, 993, 994, 995, 52, 996, 997, 998, 999, 1000, 1001, 1002, 1003, 1004, 1005, 1006, 1007, 1008, 1009, 1010, 1011, 1012, 1013, 1014, 1015, 1016, 1017, 1018, 1019, 293, 2, 294, 1171, 1172, 1173, 1174, 1199, 1200, 1201, 1202, 1203, 1204, 1205, 1206] rfl (by decide +kernel)
set_option maxRecDepth 200000 in
theorem gL_law_X6_errorPosition : GoodIn wsL_law (wsV RL 258 RX6 yX6_errorPosition wsX6_errorPosition) := goodIn_app (goodIn_of _ (by decide +kernel)) ggL_law_X6_errorPosition
set_option maxRecDepth 200000 in
theorem ggL_law_X7_errorPosition : GoodIn wsL_law wsX7_errorPosition := goodIn_r _ [1023, 147, 953, 1024, 1025, 1026, 1027, 5, 1028, 1029, 1030, 1031, 1032, 1033, 1034, 1035, 1036, 1037, 1038, 1039, 1040, 66, 155, 156, 157, 1041, 1042, 1043, 1044, 1045, 1046, 1047, 1048, 1175, 1176, 1177, 1178, 1179, 1180, 1181, 1182, 1183, 1184, 1185, 1186, 1187] rfl (by decide +kernel)
set_option maxRecDepth 200000 in
theorem gL_law_X7_errorPosition : GoodIn wsL_law (wsV RL 261 RX7 yX7_errorPosition wsX7_errorPosition) := goodIn_app (goodIn_of _ (by decide +kernel)) ggL_law_X7_errorPosition
set_option maxRecDepth 200000 in
theorem ggL_law_L_runText : GoodIn wsL_law wsL_runText := goodIn_ca (goodIn_r _ [1051, 72, 1052, 1053, 1054, 2, 1055, 91, 92, 25, 21, 17, 1056, 976, 977, 24, 978, 974, 939, 979, 980, 981, 982, 983, 984, 985, 986, 987, 988, 989, 990, 991, 992, 993, 994, 995, 52, 996, 997, 998, 999, 1000, 1001, 1002, 1003, 1004, 1005, 1006, 1007, 1008, 1009, 1010, 1011, 1012, 1013, 1014, 1015, 1016, 1017, 1018, 1019, 293, 294, 114, 115, 116, 20, 117, 118, 119, 120, 121, 122, 123, 45, 124, 125, 126, 127, 128, 129, 16, 130, 97, 34, 36, 131, 132, 133, 134, 37, 38, 39, 1057, 1058, 1059, 1060, 1061, 1062, 1063, 1064, 1065, 1066, 1067, 1068, 1069, 1070, 1071, 1072, 1073, 1074, 1075, 1076, 1077, 1078, 93, 94, 95, 96, 98, 99, 100, 101, 102, 103, 104, 105, 106, 107, 108, 109, 110, 111, 112, 113, 135, 136, 137, 138, 1079, 1080, 1081, 1082, 348, 349, 350, 351, 285, 286, 287, 288, 1083, 1084, 1085, 1086, 1087, 1088, 1089, 1090, 295, 296, 297, 298, 299, 300, 301, 302, 303, 304, 305, 306, 85, 86, 87, 292, 307, 308, 309, 310, 311, 312, 313, 314, 315, 316, 317, 318, 319, 320, 321, 322, 323, 324, 325, 326, 339, 340, 341, 342, 343, 344, 345, 346, 347, 1091, 1092, 1093, 1094, 390, 391, 392, 393, 394, 395, 396, 397, 398, 399, 400, 401, 402, 403, 404, 405, 406, 407, 408, 409, 410, 411, 412, 413, 414, 415, 416, 417, 418, 419, 420, 421, 422, 423, 424, 425, 426, 427, 428, 429, 430, 431, 432, 433, 434, 435, 436, 437, 438, 439, 440, 441, 442, 443, 444, 445, 446, 447, 448, 449, 450, 451, 452, 453, 454, 455, 456, 457, 458, 1095, 1096, 1097, 1098, 371, 372, 373, 374, 1099, 1100, 1101, 1102, 471, 483, 484, 485, 494, 495, 496, 497, 498, 499, 500, 501, 502, 503, 504, 505, 506, 364, 365, 366, 507, 525, 526, 527, 528, 1171, 1172, 1173, 1174, 1199, 1200, 1201, 1202, 1203, 1204, 1205, 1206, 1194, 1195, 1196, 1197, 1198, 1188, 1189, 1190, 1191, 1192, 1193] rfl (by decide +kernel)) (goodIn_sub (fun _ h => List.mem_append_right _ h) (by decide +kernel))
set_option maxRecDepth 200000 in
theorem gL_law_L_runText : GoodIn wsL_law (va_wsS RL 262 yL_runText wsL_runText) := goodIn_app (goodIn_of _ (by decide +kernel)) ggL_law_L_runText
set_option maxRecDepth 200000 in
theorem ggL_law_X7_runText : GoodIn wsL_law wsX7_runText := goodIn_r _ [1106, 147, 1024, 953, 1025, 1026, 1027, 5, 1028, 1029, 1030, 1031, 1032, 1033, 1034, 1035, 1036, 1037, 1038, 1039, 1040, 66, 155, 156, 157, 1041, 1042, 1043, 1044, 1045, 1046, 1047, 1048, 556, 557, 558, 559, 241, 242, 243, 244, 245, 64, 63, 1107, 1108, 1109, 1110, 148, 149, 150, 151, 152, 153, 154, 158, 159, 160, 161, 162, 163, 164, 165, 166, 167, 168, 169, 170, 171, 172, 173, 174, 175, 176, 177, 178, 179, 180, 181, 182, 183, 184, 185, 186, 187, 188, 189, 190, 191, 192, 193, 194, 195, 196, 197, 198, 199, 200, 201, 202, 203, 204, 205, 206, 207, 208, 209, 210, 211, 212, 213, 214, 215, 216, 217, 218, 219, 220, 221, 222, 223, 224, 225, 226, 227, 228, 229, 230, 231, 232, 233, 234, 235, 236, 237, 238, 239, 240, 246, 247, 248, 249, 250, 251, 252, 253, 254, 255, 256, 257, 258, 259, 260, 261, 262, 263, 264, 265, 266, 267, 268, 269, 1175, 1176, 1177, 1178, 1179, 1180, 1181, 1182, 1183, 1184, 1185, 1186, 1187] rfl (by decide +kernel)
set_option maxRecDepth 200000 in
theorem gL_law_X7_runText : GoodIn wsL_law (wsV RL 265 RX7 yX7_runText wsX7_runText) := goodIn_app (goodIn_of _ (by decide +kernel)) ggL_law_X7_runText
set_option maxRecDepth 200000 in
theorem ggL_law_L_undo : GoodIn wsL_law wsL_undo := goodIn_ca (goodIn_r _ [1113, 73, 1114, 1115, 1116, 2, 1117, 78, 79, 21, 17, 1118, 1119, 1120, 20, 1121, 118, 1122, 1123, 1124, 1125, 120, 121, 122, 123, 45, 119, 124, 125, 126, 127, 128, 129, 16, 130, 97, 34, 36, 131, 132, 133, 134, 37, 38, 39, 1171, 1172, 1173, 1174, 1194, 1195, 1196, 1197, 1198, 1188, 1189, 1190, 1191, 1192, 1193] rfl (by decide +kernel)) (goodIn_sub (fun _ h => List.mem_append_left _ (List.mem_append_left _ (List.mem_append_right _ h))) (by decide +kernel))
set_option maxRecDepth 200000 in
theorem gL_law_L_undo : GoodIn wsL_law (va_wsS RL 266 yL_undo wsL_undo) := goodIn_app (goodIn_of _ (by decide +kernel)) ggL_law_L_undo
set_option maxRecDepth 200000 in
theorem ggL_law_X7_undo : GoodIn wsL_law wsX7_undo := goodIn_r _ [1129, 147, 245, 63, 64, 556, 557, 558, 5, 559, 1175, 1176, 1177, 1178, 1179, 1180, 1181, 1182, 1183, 1184, 1185, 1186, 1187] rfl (by decide +kernel)
set_option maxRecDepth 200000 in
theorem gL_law_X7_undo : GoodIn wsL_law (wsV RL 268 RX7 yX7_undo wsX7_undo) := goodIn_app (goodIn_of _ (by decide +kernel)) ggL_law_X7_undo
set_option maxRecDepth 200000 in
theorem ggL_law_X6_savedStates : GoodIn wsL_law wsX6_savedStates := goodIn_r _ [1133, 21, 1118, 1119, 1120, 20, 1121, 118, 1171, 1172, 1173, 1174, 1194, 1195, 1196, 1197, 1198] rfl (by decide +kernel)
set_option maxRecDepth 200000 in
theorem gL_law_X6_savedStates : GoodIn wsL_law (wsV RL 269 RX6 yX6_savedStates wsX6_savedStates) := goodIn_app (goodIn_of _ (by decide +kernel)) ggL_law_X6_savedStates
set_option maxRecDepth 200000 in
theorem ggL_law_X7_savedStates : GoodIn wsL_law wsX7_savedStates := goodIn_r _ [1137, 147, 245, 1175, 1176, 1177, 1178, 1179, 1180, 1181, 1182, 1183, 1184, 1185, 1186, 1187] rfl (by decide +kernel)
set_option maxRecDepth 200000 in
theorem gL_law_X7_savedStates : GoodIn wsL_law (wsV RL 272 RX7 yX7_savedStates wsX7_savedStates) := goodIn_app (goodIn_of _ (by decide +kernel)) ggL_law_X7_savedStates
set_option maxRecDepth 200000 in
theorem ggL_law_X6_takeSnapshot : GoodIn wsL_law wsX6_takeSnapshot := goodIn_r _ [1141, 21, 17, 1142, 1143, 1144, 20, 1145, 46, 1146, 124, 125, 126, 127, 128, 129, 16, 130, 97, 34, 36, 131, 132, 133, 134, 37, 38, 39, 348, 349, 350, 351, 1171, 1172, 1173, 1174, 1194, 1195, 1196, 1197, 1198, 1188, 1189, 1190, 1191, 1192, 1193] rfl (by decide +kernel)
set_option maxRecDepth 200000 in
theorem gL_law_X6_takeSnapshot : GoodIn wsL_law (wsV RL 273 RX6 yX6_takeSnapshot wsX6_takeSnapshot) := goodIn_app (goodIn_of _ (by decide +kernel)) ggL_law_X6_takeSnapshot
set_option maxRecDepth 200000 in
theorem ggL_law_X7_takeSnapshot : GoodIn wsL_law wsX7_takeSnapshot := goodIn_r _ [1150, 147, 1151, 65, 63, 1175, 1176, 1177, 1178, 1179, 1180, 1181, 1182, 1183, 1184, 1185, 1186, 1187] rfl (by decide +kernel)
set_option maxRecDepth 200000 in
theorem gL_law_X7_takeSnapshot : GoodIn wsL_law (wsV RL 276 RX7 yX7_takeSnapshot wsX7_takeSnapshot) := goodIn_app (goodIn_of _ (by decide +kernel)) ggL_law_X7_takeSnapshot
set_option maxRecDepth 200000 in
theorem ggL_law_L_restoreSnapshot : GoodIn wsL_law wsL_restoreSnapshot := goodIn_ca (goodIn_r _ [1154, 73, 1155, 1156, 1157, 2, 1158, 78, 79, 21, 17, 1159, 1160, 1161, 20, 1162, 1146, 114, 115, 116, 117, 118, 119, 120, 121, 122, 123, 45, 124, 125, 126, 127, 128, 129, 16, 130, 97, 34, 36, 131, 132, 133, 134, 37, 38, 39, 1163, 1164, 1165, 1166, 46, 348, 349, 350, 351, 1171, 1172, 1173, 1174, 1194, 1195, 1196, 1197, 1198, 1188, 1189, 1190, 1191, 1192, 1193] rfl (by decide +kernel)) (goodIn_sub (fun _ h => List.mem_append_left _ (List.mem_append_left _ (List.mem_append_right _ h))) (by decide +kernel))
set_option maxRecDepth 200000 in
theorem gL_law_L_restoreSnapshot : GoodIn wsL_law (va_wsS RL 277 yL_restoreSnapshot wsL_restoreSnapshot) := goodIn_app (goodIn_of _ (by decide +kernel)) ggL_law_L_restoreSnapshot
set_option maxRecDepth 200000 in
theorem ggL_law_X7_restoreSnapshot : GoodIn wsL_law wsX7_restoreSnapshot := goodIn_r _ [1170, 147, 1151, 63, 65, 556, 557, 558, 5, 559, 241, 242, 243, 244, 245, 64, 1175, 1176, 1177, 1178, 1179, 1180, 1181, 1182, 1183, 1184, 1185, 1186, 1187] rfl (by decide +kernel)
set_option maxRecDepth 200000 in
theorem gL_law_X7_restoreSnapshot : GoodIn wsL_law (wsV RL 279 RX7 yX7_restoreSnapshot wsX7_restoreSnapshot) := goodIn_app (goodIn_of _ (by decide +kernel)) ggL_law_X7_restoreSnapshot
