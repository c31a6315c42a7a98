set_option maxRecDepth 20000 in
theorem ggL_law_X8_init : GoodIn wsL_law wsX8_init := goodIn_r _ [9, 10, 11, 12, 13, 14, 15, 16, 17, 18, 19, 20, 21, 22, 23, 24, 25, 26, 27, 28, 29, 30, 31, 32, 33, 34, 35, 36, 37, 38, 39, 40, 41, 42, 43, 44, 45, 46, 47, 48, 49, 50, 51, 52, 53, 54, 55, 56, 57, 58, 59, 60, 61, 62, 63, 64, 65, 66, 67, 68, 69, 70, 71, 72, 73, 74, 75, 76, 77, 78, 79, 80, 81, 82, 83, 84, 85, 86, 87, 88, 89, 90, 91, 92, 93, 94, 95, 96, 97, 98, 99, 100, 101, 102, 103, 104, 105, 106, 107, 108, 109, 110, 111, 112, 113, 114, 115, 1156, 1157, 1102, 1103, 1104, 1105, 1106, 1107, 1108, 1109, 1158, 1159, 1160, 1161, 1162, 1163, 1164, 1165, 1166, 1167, 1168, 1169, 1170, 1171, 1172, 1173, 1174, 1175, 1176, 1177, 1178, 1179, 1180, 1181, 1182, 1183, 1184, 1185, 1186, 1187, 1188, 1189, 1190, 1191, 1192, 1193, 1194, 1195, 1196, 1197, 1198, 1199, 1200, 1201, 1202] (by decide +kernel) (by decide +kernel)
set_option maxRecDepth 20000 in
theorem gL_law_X8_init : GoodIn wsL_law (wsX8_init) := ggL_law_X8_init
set_option maxRecDepth 20000 in
theorem ggL_law_X9_init : GoodIn wsL_law wsX9_init := goodIn_r _ [118, 119, 11, 12, 60, 120, 121, 122, 123, 124, 125, 126, 127, 128, 129, 130, 131, 132, 133, 134, 135, 136, 137, 138, 139, 140, 141, 142, 143, 144, 145, 107, 146, 147, 148, 1110, 1111, 1112, 1113, 1114, 1115, 1116, 1117, 1118, 1119, 1120, 1121, 1122, 1123, 1124, 1125, 1126, 1127, 1128, 1129, 1130, 1131, 1132, 1133, 1134, 1135, 1136, 1137, 1138, 1139, 1140, 1141, 1142, 1143, 1144, 1145, 1146, 1147, 1148, 1149, 1150, 1151, 1152, 1153, 1154, 1155] (by decide +kernel) (by decide +kernel)
set_option maxRecDepth 20000 in
theorem gL_law_X9_init : GoodIn wsL_law (wsX9_init) := ggL_law_X9_init
set_option maxRecDepth 20000 in
theorem ggL_law_X8_feed : GoodIn wsL_law wsX8_feed := goodIn_r _ [152, 16, 153, 154, 155, 156, 15, 157, 48, 47, 1102, 1103, 1104, 1105, 1106, 1107, 1108, 1109, 1156, 1157] (by decide +kernel) (by decide +kernel)
set_option maxRecDepth 20000 in
theorem gL_law_X8_feed : GoodIn wsL_law (wsV RL 15 RX8 yX8_feed wsX8_feed) := goodIn_app (goodIn_of _ (by decide +kernel)) ggL_law_X8_feed
set_option maxRecDepth 20000 in
theorem ggL_law_X9_feed : GoodIn wsL_law wsX9_feed := goodIn_r _ [161, 162, 128, 163, 1110, 1111, 1112, 1113, 1114, 1115, 1116, 1117, 1118, 1119, 1120, 1121, 1122, 1123, 1124, 1125, 1126, 1127, 1128, 1129, 1130, 1131, 1132, 1133, 1134, 1135, 1136, 1137, 1138, 1139, 1140, 1141, 1142, 1143, 1144, 1145, 1146, 1147, 1148, 1149, 1150, 1151, 1152, 1153, 1154, 1155] (by decide +kernel) (by decide +kernel)
set_option maxRecDepth 20000 in
theorem gL_law_X9_feed : GoodIn wsL_law (wsV RL 19 RX9 yX9_feed wsX9_feed) := goodIn_app (goodIn_of _ (by decide +kernel)) ggL_law_X9_feed
set_option maxRecDepth 20000 in
theorem ggL_law_X8_end : GoodIn wsL_law wsX8_end := goodIn_r _ [167, 16, 153, 1102, 1103, 1104, 1105, 1106, 1107, 1108, 1109, 1156, 1157] (by decide +kernel) (by decide +kernel)
set_option maxRecDepth 20000 in
theorem gL_law_X8_end : GoodIn wsL_law (wsV RL 20 RX8 yX8_end wsX8_end) := goodIn_app (goodIn_of _ (by decide +kernel)) ggL_law_X8_end
set_option maxRecDepth 20000 in
theorem ggL_law_X9_end : GoodIn wsL_law wsX9_end := goodIn_r _ [171, 162, 172, 173, 5, 174, 1110, 1111, 1112, 1113, 1114, 1115, 1116, 1117, 1118, 1119, 1120, 1121, 1122, 1123, 1124, 1125, 1126, 1127, 1128, 1129, 1130, 1131, 1132, 1133, 1134, 1135, 1136, 1137, 1138, 1139, 1140, 1141, 1142, 1143, 1144, 1145, 1146, 1147, 1148, 1149, 1150, 1151, 1152, 1153, 1154, 1155] (by decide +kernel) (by decide +kernel)
set_option maxRecDepth 20000 in
theorem gL_law_X9_end : GoodIn wsL_law (wsV RL 24 RX9 yX9_end wsX9_end) := goodIn_app (goodIn_of _ (by decide +kernel)) ggL_law_X9_end
set_option maxRecDepth 20000 in
theorem ggL_law_X8_tongue : GoodIn wsL_law wsX8_tongue := goodIn_r _ [178, 32, 179, 36, 180, 20, 16, 153, 181, 41, 182, 40, 183, 184, 185, 186, 187, 19, 188, 55, 189, 190, 191, 192, 193, 194, 195, 39, 196, 61, 69, 70, 71, 72, 73, 74, 75, 197, 198, 199, 200, 53, 201, 202, 203, 204, 205, 206, 207, 208, 209, 210, 211, 212, 213, 214, 215, 216, 217, 218, 219, 220, 221, 222, 223, 224, 225, 226, 227, 228, 229, 230, 231, 232, 233, 234, 235, 236, 237, 238, 239, 240, 241, 242, 243, 244, 245, 246, 247, 248, 249, 250, 251, 252, 253, 254, 255, 256, 257, 258, 259, 260, 261, 262, 263, 264, 265, 266, 267, 268, 269, 270, 271, 272, 273, 274, 275, 276, 277, 278, 279, 280, 281, 282, 283, 284, 285, 286, 287, 288, 289, 290, 291, 292, 293, 294, 295, 296, 297, 298, 299, 300, 301, 302, 303, 304, 305, 306, 307, 308, 63, 309, 310, 311, 312, 313, 314, 315, 316, 317, 318, 319, 320, 64, 65, 321, 322, 323, 324, 325, 326, 327, 328, 329, 330, 2, 331, 332, 333, 334, 335, 68, 336, 337, 338, 339, 66, 67, 340, 341, 342, 343, 344, 345, 346, 347, 348, 349, 350, 351, 352, 353, 354, 355, 356, 357, 358, 359, 360, 361, 362, 363, 364, 365, 366, 367, 1102, 1103, 1104, 1105, 1106, 1107, 1108, 1109, 1182, 1183, 1184, 1185, 1186, 1187, 1188, 1189, 1190, 1191, 1192, 1156, 1157, 1158, 1159, 1160, 1161, 1162, 1163, 1164, 1165, 1193, 1194, 1195, 1196, 1197, 1198, 1199, 1200, 1201, 1202] (by decide +kernel) (by decide +kernel)
set_option maxRecDepth 20000 in
theorem gL_law_X8_tongue : GoodIn wsL_law (wsV RL 25 RX8 yX8_tongue wsX8_tongue) := goodIn_app (goodIn_of _ (by decide +kernel)) ggL_law_X8_tongue
set_option maxRecDepth 20000 in
theorem ggL_law_X9_tongue : GoodIn wsL_law wsX9_tongue := goodIn_r _ [371, 372, 373, 374, 375, 376, 377, 124, 378, 162, 379, 380, 381, 120, 121, 125, 122, 126, 123, 127, 382, 383, 384, 5, 385, 386, 387, 388, 389, 390, 391, 392, 393, 394, 395, 128, 172, 173, 174, 396, 397, 398, 399, 400, 401, 402, 403, 404, 405, 406, 407, 408, 409, 410, 411, 412, 413, 414, 415, 416, 417, 418, 419, 420, 421, 422, 423, 424, 425, 426, 427, 428, 429, 1110, 1111, 1112, 1113, 1114, 1115, 1116, 1117, 1118, 1119, 1120, 1121, 1122, 1123, 1124, 1125, 1126, 1127, 1128, 1129, 1130, 1131, 1132, 1133, 1134, 1135, 1136, 1137, 1138, 1139, 1140, 1141, 1142, 1143, 1144, 1145, 1146, 1147, 1148, 1149, 1150, 1151, 1152, 1153, 1154, 1155] (by decide +kernel) (by decide +kernel)
set_option maxRecDepth 20000 in
theorem gL_law_X9_tongue : GoodIn wsL_law (wsV RL 29 RX9 yX9_tongue wsX9_tongue) := goodIn_app (goodIn_of _ (by decide +kernel)) ggL_law_X9_tongue
set_option maxRecDepth 20000 in
theorem ggL_law_X8_fault : GoodIn wsL_law wsX8_fault := goodIn_r _ [433, 41, 1102, 1103, 1104, 1105, 1106, 1107, 1108, 1109] (by decide +kernel) (by decide +kernel)
set_option maxRecDepth 20000 in
theorem gL_law_X8_fault : GoodIn wsL_law (wsV RL 30 RX8 yX8_fault wsX8_fault) := goodIn_app (goodIn_of _ (by decide +kernel)) ggL_law_X8_fault
set_option maxRecDepth 20000 in
theorem ggL_law_X9_fault : GoodIn wsL_law wsX9_fault := goodIn_r _ [437, 374, 1110, 1111, 1112, 1113, 1114, 1115, 1116, 1117, 1118, 1119, 1120, 1121, 1122, 1123, 1124, 1125, 1126, 1127, 1128, 1129, 1130, 1131, 1132, 1133, 1134, 1135, 1136, 1137, 1138, 1139, 1140, 1141, 1142, 1143, 1144, 1145, 1146, 1147, 1148, 1149, 1150, 1151, 1152, 1153, 1154, 1155] (by decide +kernel) (by decide +kernel)
set_option maxRecDepth 20000 in
theorem gL_law_X9_fault : GoodIn wsL_law (wsV RL 33 RX9 yX9_fault wsX9_fault) := goodIn_app (goodIn_of _ (by decide +kernel)) ggL_law_X9_fault
set_option maxRecDepth 20000 in
theorem ggL_law_X8_word : GoodIn wsL_law wsX8_word := goodIn_r _ [441, 40, 442, 443, 444, 327, 328, 39, 329, 70, 445, 344, 315, 345, 346, 347, 348, 446, 447, 448, 343, 449, 450, 451, 452, 71, 68, 330, 2, 331, 453, 454, 455, 456, 1102, 1103, 1104, 1105, 1106, 1107, 1108, 1109, 1193, 1194, 1195, 1196, 1197, 1198, 1199, 1200, 1201, 1202] (by decide +kernel) (by decide +kernel)
set_option maxRecDepth 20000 in
theorem gL_law_X8_word : GoodIn wsL_law (wsV RL 34 RX8 yX8_word wsX8_word) := goodIn_app (goodIn_of _ (by decide +kernel)) ggL_law_X8_word
set_option maxRecDepth 20000 in
theorem ggL_law_X9_word : GoodIn wsL_law wsX9_word := goodIn_r _ [460, 129, 461, 462, 381, 123, 121, 463, 464, 465, 5, 466, 380, 172, 173, 174, 467, 468, 469, 470, 120, 122, 471, 472, 473, 1110, 1111, 1112, 1113, 1114, 1115, 1116, 1117, 1118, 1119, 1120, 1121, 1122, 1123, 1124, 1125, 1126, 1127, 1128, 1129, 1130, 1131, 1132, 1133, 1134, 1135, 1136, 1137, 1138, 1139, 1140, 1141, 1142, 1143, 1144, 1145, 1146, 1147, 1148, 1149, 1150, 1151, 1152, 1153, 1154, 1155] (by decide +kernel) (by decide +kernel)
set_option maxRecDepth 20000 in
theorem gL_law_X9_word : GoodIn wsL_law (wsV RL 38 RX9 yX9_word wsX9_word) := goodIn_app (goodIn_of _ (by decide +kernel)) ggL_law_X9_word
set_option maxRecDepth 20000 in
theorem ggL_law_X8_ask : GoodIn wsL_law wsX8_ask := goodIn_r _ [477, 40, 478, 479, 480, 481, 39, 482, 71, 483, 484, 485, 486, 487, 488, 489, 1102, 1103, 1104, 1105, 1106, 1107, 1108, 1109, 1193, 1194, 1195, 1196, 1197, 1198, 1199, 1200, 1201, 1202] (by decide +kernel) (by decide +kernel)
set_option maxRecDepth 20000 in
theorem gL_law_X8_ask : GoodIn wsL_law (wsV RL 39 RX8 yX8_ask wsX8_ask) := goodIn_app (goodIn_of _ (by decide +kernel)) ggL_law_X8_ask
set_option maxRecDepth 20000 in
theorem ggL_law_X9_ask : GoodIn wsL_law wsX9_ask := goodIn_r _ [493, 123, 494, 495, 496, 5, 497, 381, 172, 173, 174, 498, 499, 500, 1110, 1111, 1112, 1113, 1114, 1115, 1116, 1117, 1118, 1119, 1120, 1121, 1122, 1123, 1124, 1125, 1126, 1127, 1128, 1129, 1130, 1131, 1132, 1133, 1134, 1135, 1136, 1137, 1138, 1139, 1140, 1141, 1142, 1143, 1144, 1145, 1146, 1147, 1148, 1149, 1150, 1151, 1152, 1153, 1154, 1155] (by decide +kernel) (by decide +kernel)
set_option maxRecDepth 20000 in
theorem gL_law_X9_ask : GoodIn wsL_law (wsV RL 42 RX9 yX9_ask wsX9_ask) := goodIn_app (goodIn_of _ (by decide +kernel)) ggL_law_X9_ask
set_option maxRecDepth 20000 in
theorem ggL_law_X8_blurred : GoodIn wsL_law wsX8_blurred := goodIn_r _ [504, 40, 444, 327, 328, 39, 329, 70, 505, 506, 2, 507, 508, 354, 355, 356, 65, 453, 347, 315, 348, 1102, 1103, 1104, 1105, 1106, 1107, 1108, 1109, 1193, 1194, 1195, 1196, 1197, 1198, 1199, 1200, 1201, 1202] (by decide +kernel) (by decide +kernel)
set_option maxRecDepth 20000 in
theorem gL_law_X8_blurred : GoodIn wsL_law (wsV RL 43 RX8 yX8_blurred wsX8_blurred) := goodIn_app (goodIn_of _ (by decide +kernel)) ggL_law_X8_blurred
set_option maxRecDepth 20000 in
theorem ggL_law_X9_blurred : GoodIn wsL_law wsX9_blurred := goodIn_r _ [512, 129, 461, 463, 464, 465, 5, 466, 380, 172, 173, 174, 513, 514, 515, 516, 467, 468, 469, 470, 121, 120, 122, 471, 472, 473, 1110, 1111, 1112, 1113, 1114, 1115, 1116, 1117, 1118, 1119, 1120, 1121, 1122, 1123, 1124, 1125, 1126, 1127, 1128, 1129, 1130, 1131, 1132, 1133, 1134, 1135, 1136, 1137, 1138, 1139, 1140, 1141, 1142, 1143, 1144, 1145, 1146, 1147, 1148, 1149, 1150, 1151, 1152, 1153, 1154, 1155] (by decide +kernel) (by decide +kernel)
set_option maxRecDepth 20000 in
theorem gL_law_X9_blurred : GoodIn wsL_law (wsV RL 47 RX9 yX9_blurred wsX9_blurred) := goodIn_app (goodIn_of _ (by decide +kernel)) ggL_law_X9_blurred
set_option maxRecDepth 20000 in
theorem ggL_law_X8_apart : GoodIn wsL_law wsX8_apart := goodIn_r _ [520, 40, 444, 327, 328, 39, 329, 70, 505, 506, 2, 507, 521, 522, 523, 524, 353, 354, 355, 356, 65, 1102, 1103, 1104, 1105, 1106, 1107, 1108, 1109, 1193, 1194, 1195, 1196, 1197, 1198, 1199, 1200, 1201, 1202] (by decide +kernel) (by decide +kernel)
set_option maxRecDepth 20000 in
theorem gL_law_X8_apart : GoodIn wsL_law (wsV RL 48 RX8 yX8_apart wsX8_apart) := goodIn_app (goodIn_of _ (by decide +kernel)) ggL_law_X8_apart
set_option maxRecDepth 20000 in
theorem ggL_law_X9_apart : GoodIn wsL_law wsX9_apart := goodIn_r _ [528, 463, 464, 465, 5, 466, 380, 172, 173, 174, 513, 514, 515, 516, 529, 530, 531, 532, 129, 461, 130, 533, 467, 468, 469, 470, 121, 120, 122, 471, 472, 473, 1110, 1111, 1112, 1113, 1114, 1115, 1116, 1117, 1118, 1119, 1120, 1121, 1122, 1123, 1124, 1125, 1126, 1127, 1128, 1129, 1130, 1131, 1132, 1133, 1134, 1135, 1136, 1137, 1138, 1139, 1140, 1141, 1142, 1143, 1144, 1145, 1146, 1147, 1148, 1149, 1150, 1151, 1152, 1153, 1154, 1155] (by decide +kernel) (by decide +kernel)
set_option maxRecDepth 20000 in
theorem gL_law_X9_apart : GoodIn wsL_law (wsV RL 51 RX9 yX9_apart wsX9_apart) := goodIn_app (goodIn_of _ (by decide +kernel)) ggL_law_X9_apart
set_option maxRecDepth 20000 in
theorem ggL_law_X8_until : GoodIn wsL_law wsX8_until := goodIn_r _ [537, 40, 444, 327, 328, 39, 329, 70, 521, 522, 523, 524, 353, 354, 355, 356, 65, 1102, 1103, 1104, 1105, 1106, 1107, 1108, 1109, 1193, 1194, 1195, 1196, 1197, 1198, 1199, 1200, 1201, 1202] (by decide +kernel) (by decide +kernel)
set_option maxRecDepth 20000 in
theorem gL_law_X8_until : GoodIn wsL_law (wsV RL 52 RX8 yX8_until wsX8_until) := goodIn_app (goodIn_of _ (by decide +kernel)) ggL_law_X8_until
set_option maxRecDepth 20000 in
theorem ggL_law_X9_until : GoodIn wsL_law wsX9_until := goodIn_r _ [541, 463, 464, 465, 5, 466, 380, 172, 173, 174, 529, 530, 531, 532, 129, 461, 130, 533, 467, 468, 469, 470, 121, 120, 122, 471, 472, 473, 1110, 1111, 1112, 1113, 1114, 1115, 1116, 1117, 1118, 1119, 1120, 1121, 1122, 1123, 1124, 1125, 1126, 1127, 1128, 1129, 1130, 1131, 1132, 1133, 1134, 1135, 1136, 1137, 1138, 1139, 1140, 1141, 1142, 1143, 1144, 1145, 1146, 1147, 1148, 1149, 1150, 1151, 1152, 1153, 1154, 1155] (by decide +kernel) (by decide +kernel)
set_option maxRecDepth 20000 in
theorem gL_law_X9_until : GoodIn wsL_law (wsV RL 55 RX9 yX9_until wsX9_until) := goodIn_app (goodIn_of _ (by decide +kernel)) ggL_law_X9_until
set_option maxRecDepth 20000 in
theorem ggL_law_X8_cut : GoodIn wsL_law wsX8_cut := goodIn_r _ [545, 40, 478, 479, 480, 481, 39, 482, 71, 505, 506, 2, 507, 546, 547, 548, 549, 70, 550, 551, 552, 553, 330, 331, 554, 555, 556, 557, 66, 483, 484, 485, 486, 487, 488, 489, 558, 559, 560, 561, 562, 1102, 1103, 1104, 1105, 1106, 1107, 1108, 1109, 1193, 1194, 1195, 1196, 1197, 1198, 1199, 1200, 1201, 1202] (by decide +kernel) (by decide +kernel)
set_option maxRecDepth 20000 in
theorem gL_law_X8_cut : GoodIn wsL_law (wsV RL 56 RX8 yX8_cut wsX8_cut) := goodIn_app (goodIn_of _ (by decide +kernel)) ggL_law_X8_cut
set_option maxRecDepth 20000 in
theorem ggL_law_X9_cut : GoodIn wsL_law wsX9_cut := goodIn_r _ [566, 567, 380, 123, 494, 495, 496, 5, 497, 381, 172, 173, 174, 513, 514, 515, 516, 529, 530, 531, 532, 129, 461, 130, 533, 467, 468, 469, 470, 121, 120, 122, 471, 472, 473, 498, 499, 500, 1110, 1111, 1112, 1113, 1114, 1115, 1116, 1117, 1118, 1119, 1120, 1121, 1122, 1123, 1124, 1125, 1126, 1127, 1128, 1129, 1130, 1131, 1132, 1133, 1134, 1135, 1136, 1137, 1138, 1139, 1140, 1141, 1142, 1143, 1144, 1145, 1146, 1147, 1148, 1149, 1150, 1151, 1152, 1153, 1154, 1155] (by decide +kernel) (by decide +kernel)
set_option maxRecDepth 20000 in
theorem gL_law_X9_cut : GoodIn wsL_law (wsV RL 59 RX9 yX9_cut wsX9_cut) := goodIn_app (goodIn_of _ (by decide +kernel)) ggL_law_X9_cut
set_option maxRecDepth 20000 in
theorem ggL_law_X8_means : GoodIn wsL_law wsX8_means := goodIn_r _ [571, 40, 24, 479, 480, 481, 39, 482, 71, 505, 506, 2, 507, 572, 573, 23, 574, 575, 576, 577, 578, 579, 580, 581, 81, 80, 582, 583, 584, 585, 82, 586, 587, 315, 588, 589, 314, 316, 590, 591, 592, 593, 68, 357, 358, 359, 360, 70, 353, 354, 355, 356, 65, 1102, 1103, 1104, 1105, 1106, 1107, 1108, 1109, 1193, 1194, 1195, 1196, 1197, 1198, 1199, 1200, 1201, 1202, 1166, 1167, 1168] (by decide +kernel) (by decide +kernel)
set_option maxRecDepth 20000 in
theorem gL_law_X8_means : GoodIn wsL_law (wsV RL 60 RX8 yX8_means wsX8_means) := goodIn_app (goodIn_of _ (by decide +kernel)) ggL_law_X8_means
set_option maxRecDepth 20000 in
theorem ggL_law_X9_means : GoodIn wsL_law wsX9_means := goodIn_r _ [597, 598, 136, 137, 380, 129, 461, 123, 138, 494, 495, 496, 5, 497, 381, 172, 173, 174, 513, 514, 515, 516, 599, 600, 601, 417, 567, 467, 468, 469, 470, 121, 120, 122, 471, 472, 473, 1110, 1111, 1112, 1113, 1114, 1115, 1116, 1117, 1118, 1119, 1120, 1121, 1122, 1123, 1124, 1125, 1126, 1127, 1128, 1129, 1130, 1131, 1132, 1133, 1134, 1135, 1136, 1137, 1138, 1139, 1140, 1141, 1142, 1143, 1144, 1145, 1146, 1147, 1148, 1149, 1150, 1151, 1152, 1153, 1154, 1155] (by decide +kernel) (by decide +kernel)
set_option maxRecDepth 20000 in
theorem gL_law_X9_means : GoodIn wsL_law (wsV RL 64 RX9 yX9_means wsX9_means) := goodIn_app (goodIn_of _ (by decide +kernel)) ggL_law_X9_means
set_option maxRecDepth 20000 in
theorem ggL_law_X8_both : GoodIn wsL_law wsX8_both := goodIn_r _ [605, 40, 606, 607, 608, 39, 609, 68, 610, 480, 481, 482, 71, 611, 327, 328, 329, 70, 330, 2, 331, 505, 506, 507, 612, 613, 614, 615, 554, 555, 556, 557, 66, 1102, 1103, 1104, 1105, 1106, 1107, 1108, 1109, 1193, 1194, 1195, 1196, 1197, 1198, 1199, 1200, 1201, 1202] (by decide +kernel) (by decide +kernel)
set_option maxRecDepth 20000 in
theorem gL_law_X8_both : GoodIn wsL_law (wsV RL 65 RX8 yX8_both wsX8_both) := goodIn_app (goodIn_of _ (by decide +kernel)) ggL_law_X8_both
set_option maxRecDepth 20000 in
theorem ggL_law_X9_both : GoodIn wsL_law wsX9_both := goodIn_r _ [619, 620, 621, 622, 5, 623, 123, 494, 495, 496, 497, 381, 172, 173, 174, 463, 464, 465, 466, 380, 513, 514, 515, 516, 624, 625, 626, 627, 529, 530, 531, 532, 129, 461, 130, 533, 467, 468, 469, 470, 121, 120, 122, 471, 472, 473, 1110, 1111, 1112, 1113, 1114, 1115, 1116, 1117, 1118, 1119, 1120, 1121, 1122, 1123, 1124, 1125, 1126, 1127, 1128, 1129, 1130, 1131, 1132, 1133, 1134, 1135, 1136, 1137, 1138, 1139, 1140, 1141, 1142, 1143, 1144, 1145, 1146, 1147, 1148, 1149, 1150, 1151, 1152, 1153, 1154, 1155] (by decide +kernel) (by decide +kernel)
set_option maxRecDepth 20000 in
theorem gL_law_X9_both : GoodIn wsL_law (wsV RL 69 RX9 yX9_both wsX9_both) := goodIn_app (goodIn_of _ (by decide +kernel)) ggL_law_X9_both
set_option maxRecDepth 20000 in
theorem ggL_law_X8_sure : GoodIn wsL_law wsX8_sure := goodIn_r _ [631, 40, 606, 607, 608, 39, 609, 68, 610, 480, 481, 482, 71, 611, 327, 328, 329, 70, 330, 2, 331, 632, 633, 634, 635, 636, 613, 614, 615, 554, 555, 556, 557, 66, 562, 484, 485, 486, 487, 488, 489, 1102, 1103, 1104, 1105, 1106, 1107, 1108, 1109, 1193, 1194, 1195, 1196, 1197, 1198, 1199, 1200, 1201, 1202] (by decide +kernel) (by decide +kernel)
set_option maxRecDepth 20000 in
theorem gL_law_X8_sure : GoodIn wsL_law (wsV RL 70 RX8 yX8_sure wsX8_sure) := goodIn_app (goodIn_of _ (by decide +kernel)) ggL_law_X8_sure
set_option maxRecDepth 20000 in
theorem ggL_law_X9_sure : GoodIn wsL_law wsX9_sure := goodIn_r _ [640, 620, 621, 622, 5, 623, 123, 494, 495, 496, 497, 381, 172, 173, 174, 463, 464, 465, 466, 380, 624, 625, 626, 627, 529, 530, 531, 532, 129, 461, 130, 533, 467, 468, 469, 470, 121, 120, 122, 471, 472, 473, 1110, 1111, 1112, 1113, 1114, 1115, 1116, 1117, 1118, 1119, 1120, 1121, 1122, 1123, 1124, 1125, 1126, 1127, 1128, 1129, 1130, 1131, 1132, 1133, 1134, 1135, 1136, 1137, 1138, 1139, 1140, 1141, 1142, 1143, 1144, 1145, 1146, 1147, 1148, 1149, 1150, 1151, 1152, 1153, 1154, 1155] (by decide +kernel) (by decide +kernel)
set_option maxRecDepth 20000 in
theorem gL_law_X9_sure : GoodIn wsL_law (wsV RL 73 RX9 yX9_sure wsX9_sure) := goodIn_app (goodIn_of _ (by decide +kernel)) ggL_law_X9_sure
set_option maxRecDepth 20000 in
theorem ggL_law_X8_place : GoodIn wsL_law wsX8_place := goodIn_r _ [644, 28, 645, 646, 647, 2, 648, 649, 650, 651, 27, 652, 653, 89, 90, 91, 1102, 1103, 1104, 1105, 1106, 1107, 1108, 1109, 1169, 1170, 1171, 1172, 1173, 1174, 1175, 1176, 1177, 1178, 1179, 1180, 1181] (by decide +kernel) (by decide +kernel)
set_option maxRecDepth 20000 in
theorem gL_law_X8_place : GoodIn wsL_law (wsV RL 74 RX8 yX8_place wsX8_place) := goodIn_app (goodIn_of _ (by decide +kernel)) ggL_law_X8_place
set_option maxRecDepth 20000 in
theorem ggL_law_X9_place : GoodIn wsL_law wsX9_place := goodIn_r _ [657, 658, 659, 131, 132, 133, 172, 173, 5, 174, 1110, 1111, 1112, 1113, 1114, 1115, 1116, 1117, 1118, 1119, 1120, 1121, 1122, 1123, 1124, 1125, 1126, 1127, 1128, 1129, 1130, 1131, 1132, 1133, 1134, 1135, 1136, 1137, 1138, 1139, 1140, 1141, 1142, 1143, 1144, 1145, 1146, 1147, 1148, 1149, 1150, 1151, 1152, 1153, 1154, 1155] (by decide +kernel) (by decide +kernel)
set_option maxRecDepth 20000 in
theorem gL_law_X9_place : GoodIn wsL_law (wsV RL 77 RX9 yX9_place wsX9_place) := goodIn_app (goodIn_of _ (by decide +kernel)) ggL_law_X9_place
set_option maxRecDepth 20000 in
theorem ggL_law_X8_ridge : GoodIn wsL_law wsX8_ridge := goodIn_r _ [663, 28, 664, 646, 647, 2, 648, 665, 666, 667, 27, 668, 669, 92, 93, 1102, 1103, 1104, 1105, 1106, 1107, 1108, 1109, 1169, 1170, 1171, 1172, 1173, 1174, 1175, 1176, 1177, 1178, 1179, 1180, 1181] (by decide +kernel) (by decide +kernel)
set_option maxRecDepth 20000 in
theorem gL_law_X8_ridge : GoodIn wsL_law (wsV RL 78 RX8 yX8_ridge wsX8_ridge) := goodIn_app (goodIn_of _ (by decide +kernel)) ggL_law_X8_ridge
set_option maxRecDepth 20000 in
theorem ggL_law_X9_ridge : GoodIn wsL_law wsX9_ridge := goodIn_r _ [673, 658, 674, 134, 135, 172, 173, 5, 174, 1110, 1111, 1112, 1113, 1114, 1115, 1116, 1117, 1118, 1119, 1120, 1121, 1122, 1123, 1124, 1125, 1126, 1127, 1128, 1129, 1130, 1131, 1132, 1133, 1134, 1135, 1136, 1137, 1138, 1139, 1140, 1141, 1142, 1143, 1144, 1145, 1146, 1147, 1148, 1149, 1150, 1151, 1152, 1153, 1154, 1155] (by decide +kernel) (by decide +kernel)
set_option maxRecDepth 20000 in
theorem gL_law_X9_ridge : GoodIn wsL_law (wsV RL 81 RX9 yX9_ridge wsX9_ridge) := goodIn_app (goodIn_of _ (by decide +kernel)) ggL_law_X9_ridge
set_option maxRecDepth 20000 in
theorem ggL_law_X8_sheet : GoodIn wsL_law wsX8_sheet := goodIn_r _ [678, 24, 572, 573, 23, 574, 575, 576, 577, 679, 680, 681, 682, 80, 81, 82, 1102, 1103, 1104, 1105, 1106, 1107, 1108, 1109, 1166, 1167, 1168] (by decide +kernel) (by decide +kernel)
set_option maxRecDepth 20000 in
theorem gL_law_X8_sheet : GoodIn wsL_law (wsV RL 82 RX8 yX8_sheet wsX8_sheet) := goodIn_app (goodIn_of _ (by decide +kernel)) ggL_law_X8_sheet
set_option maxRecDepth 20000 in
theorem ggL_law_X9_sheet : GoodIn wsL_law wsX9_sheet := goodIn_r _ [686, 136, 137, 138, 599, 600, 5, 601, 417, 567, 172, 173, 174, 1110, 1111, 1112, 1113, 1114, 1115, 1116, 1117, 1118, 1119, 1120, 1121, 1122, 1123, 1124, 1125, 1126, 1127, 1128, 1129, 1130, 1131, 1132, 1133, 1134, 1135, 1136, 1137, 1138, 1139, 1140, 1141, 1142, 1143, 1144, 1145, 1146, 1147, 1148, 1149, 1150, 1151, 1152, 1153, 1154, 1155] (by decide +kernel) (by decide +kernel)
set_option maxRecDepth 20000 in
theorem gL_law_X9_sheet : GoodIn wsL_law (wsV RL 85 RX9 yX9_sheet wsX9_sheet) := goodIn_app (goodIn_of _ (by decide +kernel)) ggL_law_X9_sheet
set_option maxRecDepth 20000 in
theorem ggL_law_X8_lay : GoodIn wsL_law wsX8_lay := goodIn_r _ [690, 24, 691, 572, 573, 23, 574, 578, 579, 580, 581, 81, 80, 692, 693, 694, 695, 82, 1102, 1103, 1104, 1105, 1106, 1107, 1108, 1109, 1166, 1167, 1168] (by decide +kernel) (by decide +kernel)
set_option maxRecDepth 20000 in
theorem gL_law_X8_lay : GoodIn wsL_law (wsV RL 86 RX8 yX8_lay wsX8_lay) := goodIn_app (goodIn_of _ (by decide +kernel)) ggL_law_X8_lay
set_option maxRecDepth 20000 in
theorem ggL_law_X9_lay : GoodIn wsL_law wsX9_lay := goodIn_r _ [699, 136, 137, 138, 599, 600, 5, 601, 417, 567, 172, 173, 174, 1110, 1111, 1112, 1113, 1114, 1115, 1116, 1117, 1118, 1119, 1120, 1121, 1122, 1123, 1124, 1125, 1126, 1127, 1128, 1129, 1130, 1131, 1132, 1133, 1134, 1135, 1136, 1137, 1138, 1139, 1140, 1141, 1142, 1143, 1144, 1145, 1146, 1147, 1148, 1149, 1150, 1151, 1152, 1153, 1154, 1155] (by decide +kernel) (by decide +kernel)
set_option maxRecDepth 20000 in
theorem gL_law_X9_lay : GoodIn wsL_law (wsV RL 89 RX9 yX9_lay wsX9_lay) := goodIn_app (goodIn_of _ (by decide +kernel)) ggL_law_X9_lay
set_option maxRecDepth 20000 in
theorem ggL_law_X8_wind : GoodIn wsL_law wsX8_wind := goodIn_r _ [703, 24, 704, 705, 2, 706, 707, 708, 709, 23, 710, 711, 712, 713, 714, 715, 716, 717, 718, 579, 580, 581, 81, 80, 719, 583, 584, 585, 82, 720, 721, 722, 723, 1102, 1103, 1104, 1105, 1106, 1107, 1108, 1109, 1166, 1167, 1168] (by decide +kernel) (by decide +kernel)
set_option maxRecDepth 20000 in
theorem gL_law_X8_wind : GoodIn wsL_law (wsV RL 90 RX8 yX8_wind wsX8_wind) := goodIn_app (goodIn_of _ (by decide +kernel)) ggL_law_X8_wind
set_option maxRecDepth 20000 in
theorem ggL_law_X9_wind : GoodIn wsL_law wsX9_wind := goodIn_r _ [727, 728, 172, 173, 5, 174, 729, 730, 731, 732, 138, 733, 734, 735, 736, 136, 137, 1110, 1111, 1112, 1113, 1114, 1115, 1116, 1117, 1118, 1119, 1120, 1121, 1122, 1123, 1124, 1125, 1126, 1127, 1128, 1129, 1130, 1131, 1132, 1133, 1134, 1135, 1136, 1137, 1138, 1139, 1140, 1141, 1142, 1143, 1144, 1145, 1146, 1147, 1148, 1149, 1150, 1151, 1152, 1153, 1154, 1155] (by decide +kernel) (by decide +kernel)
set_option maxRecDepth 20000 in
theorem gL_law_X9_wind : GoodIn wsL_law (wsV RL 93 RX9 yX9_wind wsX9_wind) := goodIn_app (goodIn_of _ (by decide +kernel)) ggL_law_X9_wind
set_option maxRecDepth 20000 in
theorem ggL_law_X8_blur : GoodIn wsL_law wsX8_blur := goodIn_r _ [740, 28, 741, 742, 743, 27, 744, 653, 704, 705, 2, 706, 745, 746, 747, 748, 89, 749, 750, 713, 751, 90, 88, 752, 716, 717, 753, 708, 709, 23, 710, 711, 712, 714, 715, 718, 579, 580, 581, 81, 80, 719, 583, 584, 585, 82, 754, 755, 485, 756, 757, 758, 759, 760, 761, 669, 92, 93, 91, 1102, 1103, 1104, 1105, 1106, 1107, 1108, 1109, 1169, 1170, 1171, 1172, 1173, 1174, 1175, 1176, 1177, 1178, 1179, 1180, 1181, 1166, 1167, 1168] (by decide +kernel) (by decide +kernel)
set_option maxRecDepth 20000 in
theorem gL_law_X8_blur : GoodIn wsL_law (wsV RL 94 RX8 yX8_blur wsX8_blur) := goodIn_app (goodIn_of _ (by decide +kernel)) ggL_law_X8_blur
set_option maxRecDepth 20000 in
theorem ggL_law_X9_blur : GoodIn wsL_law wsX9_blur := goodIn_r _ [765, 728, 766, 767, 768, 5, 769, 659, 172, 173, 174, 770, 771, 772, 773, 131, 132, 674, 134, 135, 133, 774, 775, 776, 729, 730, 731, 732, 138, 733, 734, 735, 736, 136, 137, 1110, 1111, 1112, 1113, 1114, 1115, 1116, 1117, 1118, 1119, 1120, 1121, 1122, 1123, 1124, 1125, 1126, 1127, 1128, 1129, 1130, 1131, 1132, 1133, 1134, 1135, 1136, 1137, 1138, 1139, 1140, 1141, 1142, 1143, 1144, 1145, 1146, 1147, 1148, 1149, 1150, 1151, 1152, 1153, 1154, 1155] (by decide +kernel) (by decide +kernel)
set_option maxRecDepth 20000 in
theorem gL_law_X9_blur : GoodIn wsL_law (wsV RL 97 RX9 yX9_blur wsX9_blur) := goodIn_app (goodIn_of _ (by decide +kernel)) ggL_law_X9_blur
set_option maxRecDepth 20000 in
theorem ggL_law_X8_hears : GoodIn wsL_law wsX8_hears := goodIn_r _ [780, 28, 741, 742, 743, 27, 744, 653, 704, 705, 2, 706, 781, 782, 783, 784, 785, 746, 747, 748, 89, 749, 750, 713, 751, 90, 88, 752, 716, 717, 753, 708, 709, 23, 710, 711, 712, 714, 715, 718, 579, 580, 581, 81, 80, 719, 583, 584, 585, 82, 754, 755, 485, 756, 757, 758, 759, 760, 761, 669, 92, 93, 91, 483, 484, 486, 487, 488, 489, 786, 787, 788, 789, 1102, 1103, 1104, 1105, 1106, 1107, 1108, 1109, 1169, 1170, 1171, 1172, 1173, 1174, 1175, 1176, 1177, 1178, 1179, 1180, 1181, 1166, 1167, 1168] (by decide +kernel) (by decide +kernel)
set_option maxRecDepth 20000 in
theorem gL_law_X8_hears : GoodIn wsL_law (wsV RL 98 RX8 yX8_hears wsX8_hears) := goodIn_app (goodIn_of _ (by decide +kernel)) ggL_law_X8_hears
set_option maxRecDepth 20000 in
theorem ggL_law_X9_hears : GoodIn wsL_law wsX9_hears := goodIn_r _ [793, 728, 567, 659, 766, 767, 768, 5, 769, 172, 173, 174, 794, 795, 796, 797, 770, 771, 772, 773, 131, 132, 674, 134, 135, 133, 774, 775, 776, 729, 730, 731, 732, 138, 733, 734, 735, 736, 136, 137, 498, 499, 500, 1110, 1111, 1112, 1113, 1114, 1115, 1116, 1117, 1118, 1119, 1120, 1121, 1122, 1123, 1124, 1125, 1126, 1127, 1128, 1129, 1130, 1131, 1132, 1133, 1134, 1135, 1136, 1137, 1138, 1139, 1140, 1141, 1142, 1143, 1144, 1145, 1146, 1147, 1148, 1149, 1150, 1151, 1152, 1153, 1154, 1155] (by decide +kernel) (by decide +kernel)
set_option maxRecDepth 20000 in
theorem gL_law_X9_hears : GoodIn wsL_law (wsV RL 101 RX9 yX9_hears wsX9_hears) := goodIn_app (goodIn_of _ (by decide +kernel)) ggL_law_X9_hears
set_option maxRecDepth 20000 in
theorem ggL_law_X8_way : GoodIn wsL_law wsX8_way := goodIn_r _ [801, 28, 802, 803, 804, 741, 742, 743, 27, 744, 653, 704, 705, 2, 706, 805, 806, 807, 808, 96, 809, 810, 811, 812, 813, 95, 785, 746, 747, 748, 89, 749, 750, 713, 751, 90, 88, 752, 716, 717, 753, 708, 709, 23, 710, 711, 712, 714, 715, 718, 579, 580, 581, 81, 80, 719, 583, 584, 585, 82, 754, 755, 485, 756, 757, 758, 759, 760, 761, 669, 92, 93, 91, 814, 815, 816, 817, 818, 73, 74, 75, 819, 820, 821, 822, 823, 824, 825, 826, 827, 94, 1102, 1103, 1104, 1105, 1106, 1107, 1108, 1109, 1169, 1170, 1171, 1172, 1173, 1174, 1175, 1176, 1177, 1178, 1179, 1180, 1181, 1166, 1167, 1168] (by decide +kernel) (by decide +kernel)
set_option maxRecDepth 20000 in
theorem gL_law_X8_way : GoodIn wsL_law (wsV RL 102 RX8 yX8_way wsX8_way) := goodIn_app (goodIn_of _ (by decide +kernel)) ggL_law_X8_way
set_option maxRecDepth 20000 in
theorem ggL_law_X9_way : GoodIn wsL_law wsX9_way := goodIn_r _ [831, 728, 139, 766, 767, 768, 5, 769, 659, 172, 173, 174, 832, 833, 834, 835, 770, 771, 772, 773, 131, 132, 674, 134, 135, 133, 774, 775, 776, 729, 730, 731, 732, 138, 733, 734, 735, 736, 136, 137, 1110, 1111, 1112, 1113, 1114, 1115, 1116, 1117, 1118, 1119, 1120, 1121, 1122, 1123, 1124, 1125, 1126, 1127, 1128, 1129, 1130, 1131, 1132, 1133, 1134, 1135, 1136, 1137, 1138, 1139, 1140, 1141, 1142, 1143, 1144, 1145, 1146, 1147, 1148, 1149, 1150, 1151, 1152, 1153, 1154, 1155] (by decide +kernel) (by decide +kernel)
set_option maxRecDepth 20000 in
theorem gL_law_X9_way : GoodIn wsL_law (wsV RL 105 RX9 yX9_way wsX9_way) := goodIn_app (goodIn_of _ (by decide +kernel)) ggL_law_X9_way
set_option maxRecDepth 20000 in
theorem ggL_law_X8_call : GoodIn wsL_law wsX8_call := goodIn_r _ [839, 28, 40, 32, 179, 840, 841, 842, 2, 843, 704, 705, 706, 741, 742, 743, 27, 744, 653, 606, 607, 608, 39, 609, 68, 610, 480, 481, 482, 71, 611, 327, 328, 329, 70, 330, 331, 844, 845, 846, 31, 847, 103, 104, 105, 848, 849, 850, 851, 852, 853, 854, 855, 856, 106, 857, 858, 859, 860, 861, 862, 863, 102, 1102, 1103, 1104, 1105, 1106, 1107, 1108, 1109, 1182, 1183, 1184, 1185, 1186, 1187, 1188, 1189, 1190, 1169, 1170, 1171, 1172, 1173, 1174, 1175, 1176, 1177, 1178, 1179, 1180, 1181, 1193, 1194, 1195, 1196, 1197, 1198, 1199, 1200, 1201, 1202] (by decide +kernel) (by decide +kernel)
set_option maxRecDepth 20000 in
theorem gL_law_X8_call : GoodIn wsL_law (wsV RL 106 RX8 yX8_call wsX8_call) := goodIn_app (goodIn_of _ (by decide +kernel)) ggL_law_X8_call
set_option maxRecDepth 20000 in
theorem ggL_law_X9_call : GoodIn wsL_law wsX9_call := goodIn_r _ [867, 372, 140, 141, 142, 143, 144, 145, 146, 868, 869, 5, 870, 658, 728, 172, 173, 174, 766, 767, 768, 769, 659, 620, 621, 622, 623, 123, 494, 495, 496, 497, 381, 463, 464, 465, 466, 380, 871, 872, 873, 874, 875, 876, 877, 878, 1110, 1111, 1112, 1113, 1114, 1115, 1116, 1117, 1118, 1119, 1120, 1121, 1122, 1123, 1124, 1125, 1126, 1127, 1128, 1129, 1130, 1131, 1132, 1133, 1134, 1135, 1136, 1137, 1138, 1139, 1140, 1141, 1142, 1143, 1144, 1145, 1146, 1147, 1148, 1149, 1150, 1151, 1152, 1153, 1154, 1155] (by decide +kernel) (by decide +kernel)
set_option maxRecDepth 20000 in
theorem gL_law_X9_call : GoodIn wsL_law (wsV RL 109 RX9 yX9_call wsX9_call) := goodIn_app (goodIn_of _ (by decide +kernel)) ggL_law_X9_call
set_option maxRecDepth 20000 in
theorem ggL_law_X8_callOf : GoodIn wsL_law wsX8_callOf := goodIn_r _ [882, 32, 840, 883, 884, 885, 886, 28, 40, 887, 849, 850, 31, 851, 852, 888, 889, 890, 891, 108, 106, 781, 782, 783, 27, 784, 653, 785, 746, 747, 748, 89, 749, 750, 713, 751, 90, 88, 752, 716, 717, 753, 708, 709, 23, 710, 711, 712, 714, 715, 718, 579, 580, 581, 81, 80, 719, 583, 584, 585, 82, 754, 755, 485, 756, 757, 758, 759, 760, 761, 669, 92, 93, 91, 483, 484, 486, 487, 488, 489, 892, 893, 894, 895, 101, 896, 897, 898, 899, 900, 103, 102, 104, 105, 901, 902, 613, 614, 39, 615, 68, 554, 555, 556, 557, 66, 903, 904, 905, 906, 1102, 1103, 1104, 1105, 1106, 1107, 1108, 1109, 1182, 1183, 1184, 1185, 1186, 1187, 1188, 1189, 1190, 1169, 1170, 1171, 1172, 1173, 1174, 1175, 1176, 1177, 1178, 1179, 1180, 1181, 1166, 1167, 1168, 1193, 1194, 1195, 1196, 1197, 1198, 1199, 1200, 1201, 1202] (by decide +kernel) (by decide +kernel)
set_option maxRecDepth 20000 in
theorem gL_law_X8_callOf : GoodIn wsL_law (wsV RL 110 RX8 yX8_callOf wsX8_callOf) := goodIn_app (goodIn_of _ (by decide +kernel)) ggL_law_X8_callOf
set_option maxRecDepth 20000 in
theorem ggL_law_X9_callOf : GoodIn wsL_law wsX9_callOf := goodIn_r _ [910, 598, 659, 140, 141, 142, 143, 144, 145, 875, 876, 877, 5, 878, 372, 172, 173, 174, 911, 912, 913, 914, 794, 795, 796, 797, 770, 771, 772, 773, 131, 132, 674, 134, 135, 133, 774, 775, 776, 729, 730, 731, 732, 138, 733, 734, 735, 736, 136, 137, 624, 625, 626, 627, 380, 123, 529, 530, 531, 532, 129, 461, 130, 533, 467, 468, 469, 470, 121, 120, 122, 471, 472, 473, 498, 499, 500, 915, 916, 917, 918, 146, 919, 920, 921, 922, 1110, 1111, 1112, 1113, 1114, 1115, 1116, 1117, 1118, 1119, 1120, 1121, 1122, 1123, 1124, 1125, 1126, 1127, 1128, 1129, 1130, 1131, 1132, 1133, 1134, 1135, 1136, 1137, 1138, 1139, 1140, 1141, 1142, 1143, 1144, 1145, 1146, 1147, 1148, 1149, 1150, 1151, 1152, 1153, 1154, 1155] (by decide +kernel) (by decide +kernel)
set_option maxRecDepth 20000 in
theorem gL_law_X9_callOf : GoodIn wsL_law (wsV RL 113 RX9 yX9_callOf wsX9_callOf) := goodIn_app (goodIn_of _ (by decide +kernel)) ggL_law_X9_callOf
set_option maxRecDepth 20000 in
theorem ggL_law_X8_lie : GoodIn wsL_law wsX8_lie := goodIn_r _ [926, 32, 927, 887, 849, 850, 31, 851, 852, 928, 854, 855, 856, 106, 888, 889, 890, 891, 108, 1102, 1103, 1104, 1105, 1106, 1107, 1108, 1109, 1182, 1183, 1184, 1185, 1186, 1187, 1188, 1189, 1190] (by decide +kernel) (by decide +kernel)
set_option maxRecDepth 20000 in
theorem gL_law_X8_lie : GoodIn wsL_law (wsV RL 114 RX8 yX8_lie wsX8_lie) := goodIn_app (goodIn_of _ (by decide +kernel)) ggL_law_X8_lie
set_option maxRecDepth 20000 in
theorem ggL_law_X9_lie : GoodIn wsL_law wsX9_lie := goodIn_r _ [932, 145, 146, 875, 876, 877, 5, 878, 372, 172, 173, 174, 1110, 1111, 1112, 1113, 1114, 1115, 1116, 1117, 1118, 1119, 1120, 1121, 1122, 1123, 1124, 1125, 1126, 1127, 1128, 1129, 1130, 1131, 1132, 1133, 1134, 1135, 1136, 1137, 1138, 1139, 1140, 1141, 1142, 1143, 1144, 1145, 1146, 1147, 1148, 1149, 1150, 1151, 1152, 1153, 1154, 1155] (by decide +kernel) (by decide +kernel)
set_option maxRecDepth 20000 in
theorem gL_law_X9_lie : GoodIn wsL_law (wsV RL 118 RX9 yX9_lie wsX9_lie) := goodIn_app (goodIn_of _ (by decide +kernel)) ggL_law_X9_lie
set_option maxRecDepth 20000 in
theorem ggL_law_X8_has : GoodIn wsL_law wsX8_has := goodIn_r _ [936, 28, 32, 40, 741, 742, 743, 27, 744, 653, 887, 849, 850, 31, 851, 852, 841, 842, 2, 843, 704, 705, 706, 928, 854, 855, 856, 106, 857, 858, 859, 937, 938, 939, 940, 102, 941, 942, 943, 944, 897, 898, 899, 900, 103, 101, 104, 105, 901, 746, 747, 748, 89, 749, 750, 713, 751, 90, 88, 752, 716, 717, 753, 708, 709, 23, 710, 711, 712, 714, 715, 718, 579, 580, 581, 81, 80, 719, 583, 584, 585, 82, 754, 755, 485, 756, 757, 758, 759, 760, 761, 669, 92, 93, 91, 902, 613, 614, 39, 615, 68, 554, 555, 556, 557, 66, 1102, 1103, 1104, 1105, 1106, 1107, 1108, 1109, 1169, 1170, 1171, 1172, 1173, 1174, 1175, 1176, 1177, 1178, 1179, 1180, 1181, 1182, 1183, 1184, 1185, 1186, 1187, 1188, 1189, 1190, 1166, 1167, 1168, 1193, 1194, 1195, 1196, 1197, 1198, 1199, 1200, 1201, 1202] (by decide +kernel) (by decide +kernel)
set_option maxRecDepth 20000 in
theorem gL_law_X8_has : GoodIn wsL_law (wsV RL 119 RX8 yX8_has wsX8_has) := goodIn_app (goodIn_of _ (by decide +kernel)) ggL_law_X8_has
set_option maxRecDepth 20000 in
theorem ggL_law_X9_has : GoodIn wsL_law wsX9_has := goodIn_r _ [948, 145, 766, 767, 768, 5, 769, 659, 172, 173, 174, 875, 876, 877, 878, 372, 868, 869, 870, 658, 728, 949, 950, 951, 952, 140, 141, 953, 954, 955, 956, 919, 920, 921, 922, 911, 912, 913, 914, 142, 143, 144, 794, 795, 796, 797, 770, 771, 772, 773, 131, 132, 674, 134, 135, 133, 774, 775, 776, 729, 730, 731, 732, 138, 733, 734, 735, 736, 136, 137, 624, 625, 626, 627, 380, 123, 529, 530, 531, 532, 129, 461, 130, 533, 467, 468, 469, 470, 121, 120, 122, 471, 472, 473, 1110, 1111, 1112, 1113, 1114, 1115, 1116, 1117, 1118, 1119, 1120, 1121, 1122, 1123, 1124, 1125, 1126, 1127, 1128, 1129, 1130, 1131, 1132, 1133, 1134, 1135, 1136, 1137, 1138, 1139, 1140, 1141, 1142, 1143, 1144, 1145, 1146, 1147, 1148, 1149, 1150, 1151, 1152, 1153, 1154, 1155] (by decide +kernel) (by decide +kernel)
set_option maxRecDepth 20000 in
theorem gL_law_X9_has : GoodIn wsL_law (wsV RL 122 RX9 yX9_has wsX9_has) := goodIn_app (goodIn_of _ (by decide +kernel)) ggL_law_X9_has
set_option maxRecDepth 20000 in
theorem ggL_law_X8_knows : GoodIn wsL_law wsX8_knows := goodIn_r _ [960, 28, 40, 32, 741, 742, 743, 27, 744, 653, 479, 480, 481, 39, 482, 71, 841, 842, 2, 843, 704, 705, 706, 857, 858, 859, 937, 938, 939, 31, 940, 852, 102, 961, 962, 963, 964, 109, 104, 105, 965, 73, 74, 75, 966, 967, 968, 969, 103, 106, 970, 889, 890, 891, 108, 897, 898, 899, 900, 101, 901, 746, 747, 748, 89, 749, 750, 713, 751, 90, 88, 752, 716, 717, 753, 708, 709, 23, 710, 711, 712, 714, 715, 718, 579, 580, 581, 81, 80, 719, 583, 584, 585, 82, 754, 755, 485, 756, 757, 758, 759, 760, 761, 669, 92, 93, 91, 902, 613, 614, 615, 68, 554, 555, 556, 557, 66, 903, 904, 905, 906, 484, 486, 487, 488, 489, 1102, 1103, 1104, 1105, 1106, 1107, 1108, 1109, 1169, 1170, 1171, 1172, 1173, 1174, 1175, 1176, 1177, 1178, 1179, 1180, 1181, 1193, 1194, 1195, 1196, 1197, 1198, 1199, 1200, 1201, 1202, 1182, 1183, 1184, 1185, 1186, 1187, 1188, 1189, 1190, 1166, 1167, 1168] (by decide +kernel) (by decide +kernel)
set_option maxRecDepth 20000 in
theorem gL_law_X8_knows : GoodIn wsL_law (wsV RL 123 RX8 yX8_knows wsX8_knows) := goodIn_app (goodIn_of _ (by decide +kernel)) ggL_law_X8_knows
set_option maxRecDepth 20000 in
theorem ggL_law_X9_knows : GoodIn wsL_law wsX9_knows := goodIn_r _ [974, 766, 767, 768, 5, 769, 659, 172, 173, 174, 494, 495, 496, 497, 381, 868, 869, 870, 658, 728, 949, 950, 951, 952, 372, 140, 141, 975, 976, 977, 978, 143, 145, 142, 144, 915, 916, 917, 918, 146, 919, 920, 921, 922, 953, 954, 955, 956, 911, 912, 913, 914, 794, 795, 796, 797, 770, 771, 772, 773, 131, 132, 674, 134, 135, 133, 774, 775, 776, 729, 730, 731, 732, 138, 733, 734, 735, 736, 136, 137, 624, 625, 626, 627, 380, 123, 529, 530, 531, 532, 129, 461, 130, 533, 467, 468, 469, 470, 121, 120, 122, 471, 472, 473, 498, 499, 500, 1110, 1111, 1112, 1113, 1114, 1115, 1116, 1117, 1118, 1119, 1120, 1121, 1122, 1123, 1124, 1125, 1126, 1127, 1128, 1129, 1130, 1131, 1132, 1133, 1134, 1135, 1136, 1137, 1138, 1139, 1140, 1141, 1142, 1143, 1144, 1145, 1146, 1147, 1148, 1149, 1150, 1151, 1152, 1153, 1154, 1155] (by decide +kernel) (by decide +kernel)
set_option maxRecDepth 20000 in
theorem gL_law_X9_knows : GoodIn wsL_law (wsV RL 126 RX9 yX9_knows wsX9_knows) := goodIn_app (goodIn_of _ (by decide +kernel)) ggL_law_X9_knows
set_option maxRecDepth 20000 in
theorem ggL_law_X8_since : GoodIn wsL_law wsX8_since := goodIn_r _ [982, 28, 40, 32, 741, 742, 743, 27, 744, 653, 606, 607, 608, 39, 609, 68, 610, 480, 481, 482, 71, 611, 327, 328, 329, 70, 330, 2, 331, 983, 984, 985, 31, 986, 109, 852, 104, 105, 965, 73, 74, 75, 966, 967, 968, 969, 103, 106, 970, 889, 890, 891, 108, 897, 898, 899, 900, 101, 102, 901, 746, 747, 748, 89, 749, 750, 713, 751, 90, 88, 752, 716, 717, 753, 708, 709, 23, 710, 711, 712, 714, 715, 718, 579, 580, 581, 81, 80, 719, 583, 584, 585, 82, 754, 755, 485, 756, 757, 758, 759, 760, 761, 669, 92, 93, 91, 902, 613, 614, 615, 554, 555, 556, 557, 66, 903, 904, 905, 906, 484, 486, 487, 488, 489, 1102, 1103, 1104, 1105, 1106, 1107, 1108, 1109, 1169, 1170, 1171, 1172, 1173, 1174, 1175, 1176, 1177, 1178, 1179, 1180, 1181, 1193, 1194, 1195, 1196, 1197, 1198, 1199, 1200, 1201, 1202, 1182, 1183, 1184, 1185, 1186, 1187, 1188, 1189, 1190, 1166, 1167, 1168] (by decide +kernel) (by decide +kernel)
set_option maxRecDepth 20000 in
theorem gL_law_X8_since : GoodIn wsL_law (wsV RL 127 RX8 yX8_since wsX8_since) := goodIn_app (goodIn_of _ (by decide +kernel)) ggL_law_X8_since
set_option maxRecDepth 20000 in
theorem ggL_law_X9_since : GoodIn wsL_law wsX9_since := goodIn_r _ [990, 372, 766, 767, 768, 5, 769, 659, 172, 173, 174, 620, 621, 622, 623, 123, 494, 495, 496, 497, 381, 463, 464, 465, 466, 380, 975, 976, 977, 978, 143, 145, 142, 144, 915, 916, 917, 918, 146, 919, 920, 921, 922, 953, 954, 955, 956, 911, 912, 913, 914, 141, 794, 795, 796, 797, 770, 771, 772, 773, 131, 132, 674, 134, 135, 133, 774, 775, 776, 729, 730, 731, 732, 138, 733, 734, 735, 736, 136, 137, 624, 625, 626, 627, 529, 530, 531, 532, 129, 461, 130, 533, 467, 468, 469, 470, 121, 120, 122, 471, 472, 473, 498, 499, 500, 1110, 1111, 1112, 1113, 1114, 1115, 1116, 1117, 1118, 1119, 1120, 1121, 1122, 1123, 1124, 1125, 1126, 1127, 1128, 1129, 1130, 1131, 1132, 1133, 1134, 1135, 1136, 1137, 1138, 1139, 1140, 1141, 1142, 1143, 1144, 1145, 1146, 1147, 1148, 1149, 1150, 1151, 1152, 1153, 1154, 1155] (by decide +kernel) (by decide +kernel)
set_option maxRecDepth 20000 in
theorem gL_law_X9_since : GoodIn wsL_law (wsV RL 130 RX9 yX9_since wsX9_since) := goodIn_app (goodIn_of _ (by decide +kernel)) ggL_law_X9_since
set_option maxRecDepth 20000 in
theorem ggL_law_X8_spread : GoodIn wsL_law wsX8_spread := goodIn_r _ [994, 40, 32, 28, 645, 606, 607, 608, 39, 609, 68, 610, 480, 481, 482, 71, 611, 327, 328, 329, 70, 330, 2, 331, 841, 842, 843, 704, 705, 706, 857, 858, 859, 937, 938, 939, 31, 940, 852, 102, 961, 962, 963, 964, 109, 104, 105, 965, 73, 74, 75, 966, 967, 968, 969, 103, 106, 970, 889, 890, 891, 108, 897, 898, 899, 900, 101, 901, 746, 747, 27, 748, 89, 749, 750, 713, 751, 90, 88, 752, 716, 717, 753, 708, 709, 23, 710, 711, 712, 714, 715, 718, 579, 580, 581, 81, 80, 719, 583, 584, 585, 82, 754, 755, 485, 756, 757, 758, 759, 760, 761, 669, 92, 93, 91, 902, 613, 614, 615, 554, 555, 556, 557, 66, 903, 904, 905, 906, 484, 486, 487, 488, 489, 995, 483, 1102, 1103, 1104, 1105, 1106, 1107, 1108, 1109, 1169, 1170, 1171, 1172, 1173, 1174, 1175, 1176, 1177, 1178, 1179, 1180, 1181, 1193, 1194, 1195, 1196, 1197, 1198, 1199, 1200, 1201, 1202, 1182, 1183, 1184, 1185, 1186, 1187, 1188, 1189, 1190, 1166, 1167, 1168] (by decide +kernel) (by decide +kernel)
set_option maxRecDepth 20000 in
theorem gL_law_X8_spread : GoodIn wsL_law (wsV RL 131 RX8 yX8_spread wsX8_spread) := goodIn_app (goodIn_of _ (by decide +kernel)) ggL_law_X8_spread
set_option maxRecDepth 20000 in
theorem ggL_law_X9_spread : GoodIn wsL_law wsX9_spread := goodIn_r _ [999, 659, 620, 621, 622, 5, 623, 123, 494, 495, 496, 497, 381, 172, 173, 174, 463, 464, 465, 466, 380, 868, 869, 870, 658, 728, 949, 950, 951, 952, 372, 140, 141, 975, 976, 977, 978, 143, 145, 142, 144, 915, 916, 917, 918, 146, 919, 920, 921, 922, 953, 954, 955, 956, 911, 912, 913, 914, 794, 795, 796, 797, 770, 771, 772, 773, 131, 132, 674, 134, 135, 133, 774, 775, 776, 729, 730, 731, 732, 138, 733, 734, 735, 736, 136, 137, 624, 625, 626, 627, 529, 530, 531, 532, 129, 461, 130, 533, 467, 468, 469, 470, 121, 120, 122, 471, 472, 473, 498, 499, 500, 1110, 1111, 1112, 1113, 1114, 1115, 1116, 1117, 1118, 1119, 1120, 1121, 1122, 1123, 1124, 1125, 1126, 1127, 1128, 1129, 1130, 1131, 1132, 1133, 1134, 1135, 1136, 1137, 1138, 1139, 1140, 1141, 1142, 1143, 1144, 1145, 1146, 1147, 1148, 1149, 1150, 1151, 1152, 1153, 1154, 1155] (by decide +kernel) (by decide +kernel)
set_option maxRecDepth 20000 in
theorem gL_law_X9_spread : GoodIn wsL_law (wsV RL 135 RX9 yX9_spread wsX9_spread) := goodIn_app (goodIn_of _ (by decide +kernel)) ggL_law_X9_spread
set_option maxRecDepth 20000 in
theorem ggL_law_X8_child : GoodIn wsL_law wsX8_child := goodIn_r _ [1003, 36, 180, 1102, 1103, 1104, 1105, 1106, 1107, 1108, 1109, 1191, 1192] (by decide +kernel) (by decide +kernel)
set_option maxRecDepth 20000 in
theorem gL_law_X8_child : GoodIn wsL_law (wsV RL 136 RX8 yX8_child wsX8_child) := goodIn_app (goodIn_of _ (by decide +kernel)) ggL_law_X8_child
set_option maxRecDepth 20000 in
theorem ggL_law_X9_child : GoodIn wsL_law wsX9_child := goodIn_r _ [1007, 373, 147, 1110, 1111, 1112, 1113, 1114, 1115, 1116, 1117, 1118, 1119, 1120, 1121, 1122, 1123, 1124, 1125, 1126, 1127, 1128, 1129, 1130, 1131, 1132, 1133, 1134, 1135, 1136, 1137, 1138, 1139, 1140, 1141, 1142, 1143, 1144, 1145, 1146, 1147, 1148, 1149, 1150, 1151, 1152, 1153, 1154, 1155] (by decide +kernel) (by decide +kernel)
set_option maxRecDepth 20000 in
theorem gL_law_X9_child : GoodIn wsL_law (wsV RL 139 RX9 yX9_child wsX9_child) := goodIn_app (goodIn_of _ (by decide +kernel)) ggL_law_X9_child
set_option maxRecDepth 20000 in
theorem ggL_law_X8_learn : GoodIn wsL_law wsX8_learn := goodIn_r _ [1011, 36, 40, 1012, 1013, 1014, 35, 1015, 1016, 444, 327, 328, 39, 329, 70, 1017, 1018, 1019, 1020, 114, 330, 2, 331, 1102, 1103, 1104, 1105, 1106, 1107, 1108, 1109, 1191, 1192, 1193, 1194, 1195, 1196, 1197, 1198, 1199, 1200, 1201, 1202] (by decide +kernel) (by decide +kernel)
set_option maxRecDepth 20000 in
theorem gL_law_X8_learn : GoodIn wsL_law (wsV RL 140 RX8 yX8_learn wsX8_learn) := goodIn_app (goodIn_of _ (by decide +kernel)) ggL_law_X8_learn
set_option maxRecDepth 20000 in
theorem ggL_law_X9_learn : GoodIn wsL_law wsX9_learn := goodIn_r _ [1024, 147, 1025, 1026, 1027, 5, 1028, 373, 172, 173, 174, 463, 464, 465, 466, 380, 1110, 1111, 1112, 1113, 1114, 1115, 1116, 1117, 1118, 1119, 1120, 1121, 1122, 1123, 1124, 1125, 1126, 1127, 1128, 1129, 1130, 1131, 1132, 1133, 1134, 1135, 1136, 1137, 1138, 1139, 1140, 1141, 1142, 1143, 1144, 1145, 1146, 1147, 1148, 1149, 1150, 1151, 1152, 1153, 1154, 1155] (by decide +kernel) (by decide +kernel)
set_option maxRecDepth 20000 in
theorem gL_law_X9_learn : GoodIn wsL_law (wsV RL 143 RX9 yX9_learn wsX9_learn) := goodIn_app (goodIn_of _ (by decide +kernel)) ggL_law_X9_learn
set_option maxRecDepth 20000 in
theorem ggL_law_X8_childOf : GoodIn wsL_law wsX8_childOf := goodIn_r _ [1032, 36, 40, 1012, 1013, 1014, 35, 1015, 1016, 1033, 1034, 1035, 1036, 114, 1037, 484, 485, 486, 487, 488, 489, 546, 547, 548, 39, 549, 70, 1038, 1039, 1040, 1041, 1042, 330, 2, 331, 1043, 1044, 1045, 1046, 1047, 1048, 1049, 1050, 1051, 1052, 1053, 1054, 1055, 1056, 1057, 1058, 1059, 1060, 1061, 1062, 1063, 1064, 716, 713, 717, 444, 327, 328, 329, 1065, 1066, 1102, 1103, 1104, 1105, 1106, 1107, 1108, 1109, 1191, 1192, 1193, 1194, 1195, 1196, 1197, 1198, 1199, 1200, 1201, 1202] (by decide +kernel) (by decide +kernel)
set_option maxRecDepth 20000 in
theorem gL_law_X8_childOf : GoodIn wsL_law (wsV RL 144 RX8 yX8_childOf wsX8_childOf) := goodIn_app (goodIn_of _ (by decide +kernel)) ggL_law_X8_childOf
set_option maxRecDepth 20000 in
theorem ggL_law_X9_childOf : GoodIn wsL_law wsX9_childOf := goodIn_r _ [1070, 417, 462, 380, 148, 147, 1025, 1026, 1027, 5, 1028, 373, 172, 173, 174, 1071, 1072, 1073, 1074, 1075, 1076, 1077, 1078, 129, 461, 130, 533, 467, 468, 469, 470, 121, 120, 122, 471, 472, 473, 1110, 1111, 1112, 1113, 1114, 1115, 1116, 1117, 1118, 1119, 1120, 1121, 1122, 1123, 1124, 1125, 1126, 1127, 1128, 1129, 1130, 1131, 1132, 1133, 1134, 1135, 1136, 1137, 1138, 1139, 1140, 1141, 1142, 1143, 1144, 1145, 1146, 1147, 1148, 1149, 1150, 1151, 1152, 1153, 1154, 1155] (by decide +kernel) (by decide +kernel)
set_option maxRecDepth 20000 in
theorem gL_law_X9_childOf : GoodIn wsL_law (wsV RL 147 RX9 yX9_childOf wsX9_childOf) := goodIn_app (goodIn_of _ (by decide +kernel)) ggL_law_X9_childOf
set_option maxRecDepth 20000 in
theorem ggL_law_X8_lessons : GoodIn wsL_law wsX8_lessons := goodIn_r _ [1082, 36, 40, 478, 1012, 1013, 1014, 35, 1015, 1016, 479, 480, 481, 39, 482, 71, 1038, 1039, 1040, 1041, 1042, 330, 2, 331, 1043, 1044, 1045, 1046, 1047, 114, 1037, 484, 485, 486, 487, 488, 489, 1102, 1103, 1104, 1105, 1106, 1107, 1108, 1109, 1193, 1194, 1195, 1196, 1197, 1198, 1199, 1200, 1201, 1202, 1191, 1192] (by decide +kernel) (by decide +kernel)
set_option maxRecDepth 20000 in
theorem gL_law_X8_lessons : GoodIn wsL_law (wsV RL 148 RX8 yX8_lessons wsX8_lessons) := goodIn_app (goodIn_of _ (by decide +kernel)) ggL_law_X8_lessons
set_option maxRecDepth 20000 in
theorem ggL_law_X9_lessons : GoodIn wsL_law wsX9_lessons := goodIn_r _ [1086, 380, 123, 1025, 1026, 1027, 5, 1028, 373, 172, 173, 174, 494, 495, 496, 497, 381, 1075, 1076, 1077, 1078, 147, 129, 461, 130, 533, 467, 468, 469, 470, 121, 120, 122, 471, 472, 473, 1110, 1111, 1112, 1113, 1114, 1115, 1116, 1117, 1118, 1119, 1120, 1121, 1122, 1123, 1124, 1125, 1126, 1127, 1128, 1129, 1130, 1131, 1132, 1133, 1134, 1135, 1136, 1137, 1138, 1139, 1140, 1141, 1142, 1143, 1144, 1145, 1146, 1147, 1148, 1149, 1150, 1151, 1152, 1153, 1154, 1155] (by decide +kernel) (by decide +kernel)
set_option maxRecDepth 20000 in
theorem gL_law_X9_lessons : GoodIn wsL_law (wsV RL 151 RX9 yX9_lessons wsX9_lessons) := goodIn_app (goodIn_of _ (by decide +kernel)) ggL_law_X9_lessons
set_option maxRecDepth 20000 in
theorem ggL_law_X8_count : GoodIn wsL_law wsX8_count := goodIn_r _ [1090, 40, 184, 1091, 1092, 28, 645, 664, 32, 179, 36, 180, 16, 153, 24, 1093, 1094, 1095, 1096, 31, 1097, 852, 970, 889, 890, 891, 108, 106, 1102, 1103, 1104, 1105, 1106, 1107, 1108, 1109, 1193, 1194, 1195, 1196, 1197, 1198, 1199, 1200, 1201, 1202, 1169, 1170, 1171, 1172, 1173, 1174, 1175, 1176, 1177, 1178, 1179, 1180, 1181, 1182, 1183, 1184, 1185, 1186, 1187, 1188, 1189, 1190, 1191, 1192, 1156, 1157, 1166, 1167, 1168] (by decide +kernel) (by decide +kernel)
set_option maxRecDepth 20000 in
theorem gL_law_X8_count : GoodIn wsL_law (wsV RL 152 RX8 yX8_count wsX8_count) := goodIn_app (goodIn_of _ (by decide +kernel)) ggL_law_X8_count
set_option maxRecDepth 20000 in
theorem ggL_law_X9_count : GoodIn wsL_law wsX9_count := goodIn_r _ [1101, 120, 372, 380, 381, 659, 674, 373, 162, 136, 137, 915, 916, 917, 5, 918, 146, 919, 920, 921, 922, 145, 1110, 1111, 1112, 1113, 1114, 1115, 1116, 1117, 1118, 1119, 1120, 1121, 1122, 1123, 1124, 1125, 1126, 1127, 1128, 1129, 1130, 1131, 1132, 1133, 1134, 1135, 1136, 1137, 1138, 1139, 1140, 1141, 1142, 1143, 1144, 1145, 1146, 1147, 1148, 1149, 1150, 1151, 1152, 1153, 1154, 1155] (by decide +kernel) (by decide +kernel)
set_option maxRecDepth 20000 in
theorem gL_law_X9_count : GoodIn wsL_law (wsV RL 155 RX9 yX9_count wsX9_count) := goodIn_app (goodIn_of _ (by decide +kernel)) ggL_law_X9_count
