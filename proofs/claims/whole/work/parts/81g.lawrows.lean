set_option maxRecDepth 20000 in
theorem ggL_law_X8_prove : GoodIn wsL_law wsX8_prove := goodIn_r _ [937, 16, 38, 454, 278, 279, 15, 280, 164, 135, 136, 2, 137, 938, 939, 940, 37, 941, 100, 99, 98, 942, 943, 944, 945, 298, 299, 300, 166, 167, 60, 53, 54, 55, 56, 57, 59, 301, 302, 303, 304, 52, 165, 946, 557, 558, 559, 560, 561, 538, 469, 539, 562, 563, 564, 565, 467, 468, 470, 566, 472, 473, 474, 567, 568, 569, 570, 277, 571, 464, 465, 466, 572, 573, 574, 575, 576, 476, 477, 478, 577, 578, 579, 580, 947, 948, 949, 950, 1243, 1244, 1245, 1246, 1247, 1248, 1249, 1250, 1251, 1252, 1253, 1254, 1255, 1285, 1286, 1287, 1288, 1289, 1290, 1291, 1292, 1293, 1294, 1295, 1296, 1311, 1312, 1313, 1314] (by decide +kernel) (by decide +kernel)
set_option maxRecDepth 20000 in
theorem gL_law_X8_prove : GoodIn wsL_law (wsV RL 139 RX8 yX8_prove wsX8_prove) := goodIn_app (goodIn_of _ (by decide +kernel)) ggL_law_X8_prove
set_option maxRecDepth 20000 in
theorem ggL_law_X9_prove : GoodIn wsL_law wsX9_prove := goodIn_r _ [954, 955, 111, 113, 118, 313, 384, 385, 386, 5, 387, 149, 150, 151, 314, 315, 316, 586, 587, 588, 589, 590, 591, 592, 593, 594, 491, 492, 493, 494, 396, 397, 398, 399, 488, 489, 490, 544, 545, 546, 595, 596, 597, 598, 484, 485, 486, 487, 599, 600, 601, 602, 495, 496, 497, 498, 1256, 1257, 1258, 1259, 1260, 1261, 1262, 1263, 1264, 1265, 1266, 1267, 1268, 1269, 1270, 1271, 1272, 1273, 1274, 1275, 1276, 1277, 1278, 1279, 1280, 1281, 1282, 1283, 1284] (by decide +kernel) (by decide +kernel)
set_option maxRecDepth 20000 in
theorem gL_law_X9_prove : GoodIn wsL_law (wsV RL 142 RX9 yX9_prove wsX9_prove) := goodIn_app (goodIn_of _ (by decide +kernel)) ggL_law_X9_prove
set_option maxRecDepth 20000 in
theorem ggL_law_X8_row : GoodIn wsL_law wsX8_row := goodIn_r _ [959, 38, 960, 961, 962, 963, 37, 964, 944, 965, 948, 949, 950, 1243, 1244, 1245, 1246, 1247, 1248, 1249, 1250, 1251, 1252, 1253, 1254, 1255, 1311, 1312, 1313, 1314] (by decide +kernel) (by decide +kernel)
set_option maxRecDepth 20000 in
theorem gL_law_X8_row : GoodIn wsL_law (wsV RL 143 RX8 yX8_row wsX8_row) := goodIn_app (goodIn_of _ (by decide +kernel)) ggL_law_X8_row
set_option maxRecDepth 20000 in
theorem ggL_law_X9_row : GoodIn wsL_law wsX9_row := goodIn_r _ [969, 118, 970, 971, 972, 5, 973, 313, 483, 149, 150, 151, 1256, 1257, 1258, 1259, 1260, 1261, 1262, 1263, 1264, 1265, 1266, 1267, 1268, 1269, 1270, 1271, 1272, 1273, 1274, 1275, 1276, 1277, 1278, 1279, 1280, 1281, 1282, 1283, 1284] (by decide +kernel) (by decide +kernel)
set_option maxRecDepth 20000 in
theorem gL_law_X9_row : GoodIn wsL_law (wsV RL 146 RX9 yX9_row wsX9_row) := goodIn_app (goodIn_of _ (by decide +kernel)) ggL_law_X9_row
set_option maxRecDepth 20000 in
theorem ggL_law_X8_alterRow : GoodIn wsL_law wsX8_alterRow := goodIn_r _ [977, 38, 960, 961, 962, 963, 37, 964, 944, 965, 948, 949, 950, 1243, 1244, 1245, 1246, 1247, 1248, 1249, 1250, 1251, 1252, 1253, 1254, 1255, 1311, 1312, 1313, 1314] (by decide +kernel) (by decide +kernel)
set_option maxRecDepth 20000 in
theorem gL_law_X8_alterRow : GoodIn wsL_law (wsV RL 147 RX8 yX8_alterRow wsX8_alterRow) := goodIn_app (goodIn_of _ (by decide +kernel)) ggL_law_X8_alterRow
set_option maxRecDepth 20000 in
theorem ggL_law_X9_alterRow : GoodIn wsL_law wsX9_alterRow := goodIn_r _ [981, 118, 970, 971, 972, 5, 973, 313, 483, 149, 150, 151, 1256, 1257, 1258, 1259, 1260, 1261, 1262, 1263, 1264, 1265, 1266, 1267, 1268, 1269, 1270, 1271, 1272, 1273, 1274, 1275, 1276, 1277, 1278, 1279, 1280, 1281, 1282, 1283, 1284] (by decide +kernel) (by decide +kernel)
set_option maxRecDepth 20000 in
theorem gL_law_X9_alterRow : GoodIn wsL_law (wsV RL 150 RX9 yX9_alterRow wsX9_alterRow) := goodIn_app (goodIn_of _ (by decide +kernel)) ggL_law_X9_alterRow
set_option maxRecDepth 20000 in
theorem ggL_law_X8_judge : GoodIn wsL_law wsX8_judge := goodIn_r _ [985, 16, 38, 454, 278, 279, 15, 280, 164, 986, 987, 988, 37, 989, 100, 99, 944, 98, 942, 943, 945, 298, 299, 300, 166, 167, 60, 53, 54, 55, 56, 57, 59, 301, 302, 303, 304, 52, 165, 946, 557, 558, 559, 560, 561, 538, 469, 539, 562, 563, 564, 565, 467, 468, 470, 566, 472, 473, 474, 567, 568, 569, 570, 277, 571, 464, 465, 466, 572, 573, 574, 575, 576, 476, 477, 478, 577, 578, 579, 580, 947, 948, 949, 950, 1243, 1244, 1245, 1246, 1247, 1248, 1249, 1250, 1251, 1252, 1253, 1254, 1255, 1285, 1286, 1287, 1288, 1289, 1290, 1291, 1292, 1293, 1294, 1295, 1296, 1311, 1312, 1313, 1314] (by decide +kernel) (by decide +kernel)
set_option maxRecDepth 20000 in
theorem gL_law_X8_judge : GoodIn wsL_law (wsV RL 151 RX8 yX8_judge wsX8_judge) := goodIn_app (goodIn_of _ (by decide +kernel)) ggL_law_X8_judge
set_option maxRecDepth 20000 in
theorem ggL_law_X9_judge : GoodIn wsL_law wsX9_judge := goodIn_r _ [993, 111, 113, 313, 118, 384, 385, 386, 5, 387, 314, 315, 316, 586, 587, 588, 589, 590, 591, 592, 593, 594, 491, 492, 493, 494, 396, 397, 398, 399, 488, 489, 490, 544, 545, 546, 595, 596, 597, 598, 484, 485, 486, 487, 599, 600, 601, 602, 495, 496, 497, 498, 1256, 1257, 1258, 1259, 1260, 1261, 1262, 1263, 1264, 1265, 1266, 1267, 1268, 1269, 1270, 1271, 1272, 1273, 1274, 1275, 1276, 1277, 1278, 1279, 1280, 1281, 1282, 1283, 1284] (by decide +kernel) (by decide +kernel)
set_option maxRecDepth 20000 in
theorem gL_law_X9_judge : GoodIn wsL_law (wsV RL 154 RX9 yX9_judge wsX9_judge) := goodIn_app (goodIn_of _ (by decide +kernel)) ggL_law_X9_judge
set_option maxRecDepth 20000 in
theorem ggL_law_X8_minds : GoodIn wsL_law wsX8_minds := goodIn_r _ [997, 16, 159, 44, 998, 999, 449, 537, 538, 469, 539, 1000, 468, 470, 868, 869, 2, 870, 135, 136, 137, 454, 278, 279, 15, 280, 164, 1243, 1244, 1245, 1246, 1247, 1248, 1249, 1250, 1251, 1252, 1253, 1254, 1255, 1285, 1286, 1287, 1288, 1289, 1290, 1291, 1292, 1293, 1294, 1295, 1296, 1321, 1322] (by decide +kernel) (by decide +kernel)
set_option maxRecDepth 20000 in
theorem gL_law_X8_minds : GoodIn wsL_law (wsV RL 155 RX8 yX8_minds wsX8_minds) := goodIn_app (goodIn_of _ (by decide +kernel)) ggL_law_X8_minds
set_option maxRecDepth 20000 in
theorem ggL_law_X9_minds : GoodIn wsL_law wsX9_minds := goodIn_r _ [1004, 146, 111, 120, 121, 889, 890, 5, 891, 413, 149, 150, 151, 384, 385, 386, 387, 1005, 1006, 1007, 1008, 119, 1009, 1010, 1011, 1256, 1257, 1258, 1259, 1260, 1261, 1262, 1263, 1264, 1265, 1266, 1267, 1268, 1269, 1270, 1271, 1272, 1273, 1274, 1275, 1276, 1277, 1278, 1279, 1280, 1281, 1282, 1283, 1284] (by decide +kernel) (by decide +kernel)
set_option maxRecDepth 20000 in
theorem gL_law_X9_minds : GoodIn wsL_law (wsV RL 158 RX9 yX9_minds wsX9_minds) := goodIn_app (goodIn_of _ (by decide +kernel)) ggL_law_X9_minds
set_option maxRecDepth 20000 in
theorem ggL_law_X8_sheet : GoodIn wsL_law wsX8_sheet := goodIn_r _ [1015, 44, 43, 1016, 1017, 868, 869, 2, 870, 135, 136, 137, 1018, 1019, 1020, 1021, 11, 12, 1022, 1023, 538, 469, 539, 1024, 468, 470, 1025, 1026, 1243, 1244, 1245, 1246, 1247, 1248, 1249, 1250, 1251, 1252, 1253, 1254, 1255, 1321, 1322] (by decide +kernel) (by decide +kernel)
set_option maxRecDepth 20000 in
theorem gL_law_X8_sheet : GoodIn wsL_law (wsV RL 159 RX8 yX8_sheet wsX8_sheet) := goodIn_app (goodIn_of _ (by decide +kernel)) ggL_law_X8_sheet
set_option maxRecDepth 20000 in
theorem ggL_law_X9_sheet : GoodIn wsL_law wsX9_sheet := goodIn_r _ [1030, 918, 413, 119, 120, 121, 889, 890, 5, 891, 149, 150, 151, 1256, 1257, 1258, 1259, 1260, 1261, 1262, 1263, 1264, 1265, 1266, 1267, 1268, 1269, 1270, 1271, 1272, 1273, 1274, 1275, 1276, 1277, 1278, 1279, 1280, 1281, 1282, 1283, 1284] (by decide +kernel) (by decide +kernel)
set_option maxRecDepth 20000 in
theorem gL_law_X9_sheet : GoodIn wsL_law (wsV RL 162 RX9 yX9_sheet wsX9_sheet) := goodIn_app (goodIn_of _ (by decide +kernel)) ggL_law_X9_sheet
set_option maxRecDepth 20000 in
theorem ggL_law_X8_put : GoodIn wsL_law wsX8_put := goodIn_r _ [1034, 44, 999, 868, 869, 2, 870, 135, 136, 137, 1035, 1036, 1037, 1017, 1038, 1026, 1039, 1040, 1041, 1042, 1022, 1243, 1244, 1245, 1246, 1247, 1248, 1249, 1250, 1251, 1252, 1253, 1254, 1255, 1321, 1322] (by decide +kernel) (by decide +kernel)
set_option maxRecDepth 20000 in
theorem gL_law_X8_put : GoodIn wsL_law (wsV RL 163 RX8 yX8_put wsX8_put) := goodIn_app (goodIn_of _ (by decide +kernel)) ggL_law_X8_put
set_option maxRecDepth 20000 in
theorem ggL_law_X9_put : GoodIn wsL_law wsX9_put := goodIn_r _ [1046, 119, 120, 121, 889, 890, 5, 891, 413, 149, 150, 151, 1256, 1257, 1258, 1259, 1260, 1261, 1262, 1263, 1264, 1265, 1266, 1267, 1268, 1269, 1270, 1271, 1272, 1273, 1274, 1275, 1276, 1277, 1278, 1279, 1280, 1281, 1282, 1283, 1284] (by decide +kernel) (by decide +kernel)
set_option maxRecDepth 20000 in
theorem gL_law_X9_put : GoodIn wsL_law (wsV RL 166 RX9 yX9_put wsX9_put) := goodIn_app (goodIn_of _ (by decide +kernel)) ggL_law_X9_put
set_option maxRecDepth 20000 in
theorem ggL_law_X8_item : GoodIn wsL_law wsX8_item := goodIn_r _ [1050, 44, 998, 999, 868, 869, 2, 870, 135, 136, 137, 1035, 1036, 1037, 1017, 1038, 1026, 1243, 1244, 1245, 1246, 1247, 1248, 1249, 1250, 1251, 1252, 1253, 1254, 1255, 1321, 1322] (by decide +kernel) (by decide +kernel)
set_option maxRecDepth 20000 in
theorem gL_law_X8_item : GoodIn wsL_law (wsV RL 167 RX8 yX8_item wsX8_item) := goodIn_app (goodIn_of _ (by decide +kernel)) ggL_law_X8_item
set_option maxRecDepth 20000 in
theorem ggL_law_X9_item : GoodIn wsL_law wsX9_item := goodIn_r _ [1054, 413, 120, 121, 889, 890, 5, 891, 149, 150, 151, 1005, 1006, 1007, 1008, 119, 1256, 1257, 1258, 1259, 1260, 1261, 1262, 1263, 1264, 1265, 1266, 1267, 1268, 1269, 1270, 1271, 1272, 1273, 1274, 1275, 1276, 1277, 1278, 1279, 1280, 1281, 1282, 1283, 1284] (by decide +kernel) (by decide +kernel)
set_option maxRecDepth 20000 in
theorem gL_law_X9_item : GoodIn wsL_law (wsV RL 170 RX9 yX9_item wsX9_item) := goodIn_app (goodIn_of _ (by decide +kernel)) ggL_law_X9_item
set_option maxRecDepth 20000 in
theorem ggL_law_X8_shelf : GoodIn wsL_law wsX8_shelf := goodIn_r _ [1058, 16, 44, 1059, 1060, 2, 1061, 135, 136, 137, 454, 278, 279, 15, 280, 164, 1062, 1063, 1064, 1065, 46, 47, 868, 869, 870, 1243, 1244, 1245, 1246, 1247, 1248, 1249, 1250, 1251, 1252, 1253, 1254, 1255, 1285, 1286, 1287, 1288, 1289, 1290, 1291, 1292, 1293, 1294, 1295, 1296] (by decide +kernel) (by decide +kernel)
set_option maxRecDepth 20000 in
theorem gL_law_X8_shelf : GoodIn wsL_law (wsV RL 171 RX8 yX8_shelf wsX8_shelf) := goodIn_app (goodIn_of _ (by decide +kernel)) ggL_law_X8_shelf
set_option maxRecDepth 20000 in
theorem ggL_law_X9_shelf : GoodIn wsL_law wsX9_shelf := goodIn_r _ [1069, 483, 119, 122, 123, 124, 120, 1070, 1071, 5, 1072, 413, 149, 150, 151, 384, 385, 386, 387, 111, 889, 890, 891, 1256, 1257, 1258, 1259, 1260, 1261, 1262, 1263, 1264, 1265, 1266, 1267, 1268, 1269, 1270, 1271, 1272, 1273, 1274, 1275, 1276, 1277, 1278, 1279, 1280, 1281, 1282, 1283, 1284] (by decide +kernel) (by decide +kernel)
set_option maxRecDepth 20000 in
theorem gL_law_X9_shelf : GoodIn wsL_law (wsV RL 174 RX9 yX9_shelf wsX9_shelf) := goodIn_app (goodIn_of _ (by decide +kernel)) ggL_law_X9_shelf
set_option maxRecDepth 20000 in
theorem ggL_law_X8_taken : GoodIn wsL_law wsX8_taken := goodIn_r _ [1076, 47, 998, 999, 46, 16, 448, 135, 136, 2, 137, 1059, 1060, 1061, 432, 433, 434, 454, 278, 279, 15, 280, 164, 1077, 1078, 1079, 1243, 1244, 1245, 1246, 1247, 1248, 1249, 1250, 1251, 1252, 1253, 1254, 1255, 1321, 1322, 1285, 1286, 1287, 1288, 1289, 1290, 1291, 1292, 1293, 1294, 1295, 1296] (by decide +kernel) (by decide +kernel)
set_option maxRecDepth 20000 in
theorem gL_law_X8_taken : GoodIn wsL_law (wsV RL 175 RX8 yX8_taken wsX8_taken) := goodIn_app (goodIn_of _ (by decide +kernel)) ggL_law_X8_taken
set_option maxRecDepth 20000 in
theorem ggL_law_X9_taken : GoodIn wsL_law wsX9_taken := goodIn_r _ [1083, 1084, 1085, 415, 123, 124, 1070, 1071, 5, 1072, 413, 149, 150, 151, 1086, 1087, 1088, 1089, 122, 384, 385, 386, 387, 111, 396, 397, 398, 399, 1090, 1091, 1092, 1256, 1257, 1258, 1259, 1260, 1261, 1262, 1263, 1264, 1265, 1266, 1267, 1268, 1269, 1270, 1271, 1272, 1273, 1274, 1275, 1276, 1277, 1278, 1279, 1280, 1281, 1282, 1283, 1284] (by decide +kernel) (by decide +kernel)
set_option maxRecDepth 20000 in
theorem gL_law_X9_taken : GoodIn wsL_law (wsV RL 178 RX9 yX9_taken wsX9_taken) := goodIn_app (goodIn_of _ (by decide +kernel)) ggL_law_X9_taken
set_option maxRecDepth 20000 in
theorem ggL_law_X8_act : GoodIn wsL_law wsX8_act := goodIn_r _ [1096, 42, 46, 16, 1097, 1098, 1099, 1100, 41, 1101, 106, 1102, 1059, 1060, 2, 1061, 135, 136, 137, 454, 278, 279, 15, 280, 164, 1103, 1104, 1105, 1106, 1107, 1108, 1109, 1110, 1111, 1112, 1113, 1114, 1115, 1116, 1117, 1118, 1119, 105, 1120, 1121, 1122, 1123, 1124, 1125, 1126, 1127, 1128, 1129, 1130, 1131, 1132, 1133, 1134, 1135, 1136, 1137, 1138, 1139, 1243, 1244, 1245, 1246, 1247, 1248, 1249, 1250, 1251, 1252, 1253, 1254, 1255, 1315, 1316, 1317, 1318, 1319, 1320, 1285, 1286, 1287, 1288, 1289, 1290, 1291, 1292, 1293, 1294, 1295, 1296] (by decide +kernel) (by decide +kernel)
set_option maxRecDepth 20000 in
theorem gL_law_X8_act : GoodIn wsL_law (wsV RL 179 RX8 yX8_act wsX8_act) := goodIn_app (goodIn_of _ (by decide +kernel)) ggL_law_X8_act
set_option maxRecDepth 20000 in
theorem ggL_law_X9_act : GoodIn wsL_law wsX9_act := goodIn_r _ [1143, 1144, 413, 1145, 123, 1146, 1147, 1148, 1070, 1071, 5, 1072, 149, 150, 151, 1086, 1087, 1088, 1089, 122, 384, 385, 386, 387, 111, 396, 397, 398, 399, 1149, 1150, 1151, 1152, 1153, 1154, 1155, 1156, 1157, 1158, 1159, 1160, 125, 1161, 1162, 1163, 1164, 1165, 1166, 1167, 1168, 1169, 1170, 1171, 1172, 1173, 1174, 1175, 1176, 1177, 1178, 1179, 1180, 1181, 1182, 1183, 1184, 1185, 1186, 1187, 1188, 1256, 1257, 1258, 1259, 1260, 1261, 1262, 1263, 1264, 1265, 1266, 1267, 1268, 1269, 1270, 1271, 1272, 1273, 1274, 1275, 1276, 1277, 1278, 1279, 1280, 1281, 1282, 1283, 1284] (by decide +kernel) (by decide +kernel)
set_option maxRecDepth 20000 in
theorem gL_law_X9_act : GoodIn wsL_law (wsV RL 182 RX9 yX9_act wsX9_act) := goodIn_app (goodIn_of _ (by decide +kernel)) ggL_law_X9_act
set_option maxRecDepth 20000 in
theorem ggL_law_X8_trace : GoodIn wsL_law wsX8_trace := goodIn_r _ [1192, 42, 1193, 1194, 135, 136, 2, 137, 1243, 1244, 1245, 1246, 1247, 1248, 1249, 1250, 1251, 1252, 1253, 1254, 1255, 1315, 1316, 1317, 1318, 1319, 1320] (by decide +kernel) (by decide +kernel)
set_option maxRecDepth 20000 in
theorem gL_law_X8_trace : GoodIn wsL_law (wsV RL 183 RX8 yX8_trace wsX8_trace) := goodIn_app (goodIn_of _ (by decide +kernel)) ggL_law_X8_trace
set_option maxRecDepth 20000 in
theorem ggL_law_X9_trace : GoodIn wsL_law wsX9_trace := goodIn_r _ [1198, 1144, 125, 149, 150, 5, 151, 1256, 1257, 1258, 1259, 1260, 1261, 1262, 1263, 1264, 1265, 1266, 1267, 1268, 1269, 1270, 1271, 1272, 1273, 1274, 1275, 1276, 1277, 1278, 1279, 1280, 1281, 1282, 1283, 1284] (by decide +kernel) (by decide +kernel)
set_option maxRecDepth 20000 in
theorem gL_law_X9_trace : GoodIn wsL_law (wsV RL 186 RX9 yX9_trace wsX9_trace) := goodIn_app (goodIn_of _ (by decide +kernel)) ggL_law_X9_trace
set_option maxRecDepth 20000 in
theorem ggL_law_X8_many : GoodIn wsL_law wsX8_many := goodIn_r _ [1202, 16, 159, 38, 158, 30, 134, 42, 1193, 1203, 1204, 1205, 15, 1206, 164, 57, 670, 671, 672, 673, 59, 1207, 1208, 1209, 1210, 1211, 1212, 1213, 1214, 1215, 1216, 1217, 54, 1243, 1244, 1245, 1246, 1247, 1248, 1249, 1250, 1251, 1252, 1253, 1254, 1255, 1285, 1286, 1287, 1288, 1289, 1290, 1291, 1292, 1293, 1294, 1295, 1296, 1311, 1312, 1313, 1314, 1303, 1304, 1315, 1316, 1317, 1318, 1319, 1320] (by decide +kernel) (by decide +kernel)
set_option maxRecDepth 20000 in
theorem gL_law_X8_many : GoodIn wsL_law (wsV RL 187 RX8 yX8_many wsX8_many) := goodIn_app (goodIn_of _ (by decide +kernel)) ggL_law_X8_many
set_option maxRecDepth 20000 in
theorem ggL_law_X9_many : GoodIn wsL_law wsX9_many := goodIn_r _ [1221, 111, 313, 147, 1144, 396, 397, 398, 5, 399, 682, 683, 684, 685, 1222, 1223, 1224, 1256, 1257, 1258, 1259, 1260, 1261, 1262, 1263, 1264, 1265, 1266, 1267, 1268, 1269, 1270, 1271, 1272, 1273, 1274, 1275, 1276, 1277, 1278, 1279, 1280, 1281, 1282, 1283, 1284] (by decide +kernel) (by decide +kernel)
set_option maxRecDepth 20000 in
theorem gL_law_X9_many : GoodIn wsL_law (wsV RL 190 RX9 yX9_many wsX9_many) := goodIn_app (goodIn_of _ (by decide +kernel)) ggL_law_X9_many
set_option maxRecDepth 20000 in
theorem ggL_law_X8_keep : GoodIn wsL_law wsX8_keep := goodIn_r _ [1228, 17, 16, 1229, 297, 298, 299, 15, 300, 166, 167, 60, 164, 53, 54, 55, 56, 57, 59, 301, 302, 303, 304, 52, 165, 1243, 1244, 1245, 1246, 1247, 1248, 1249, 1250, 1251, 1252, 1253, 1254, 1255, 1285, 1286, 1287, 1288, 1289, 1290, 1291, 1292, 1293, 1294, 1295, 1296] (by decide +kernel) (by decide +kernel)
set_option maxRecDepth 20000 in
theorem gL_law_X8_keep : GoodIn wsL_law (wsV RL 191 RX8 yX8_keep wsX8_keep) := goodIn_app (goodIn_of _ (by decide +kernel)) ggL_law_X8_keep
set_option maxRecDepth 20000 in
theorem ggL_law_X9_keep : GoodIn wsL_law wsX9_keep := goodIn_r _ [1233, 112, 111, 1234, 1256, 1257, 1258, 1259, 1260, 1261, 1262, 1263, 1264, 1265, 1266, 1267, 1268, 1269, 1270, 1271, 1272, 1273, 1274, 1275, 1276, 1277, 1278, 1279, 1280, 1281, 1282, 1283, 1284] (by decide +kernel) (by decide +kernel)
set_option maxRecDepth 20000 in
theorem gL_law_X9_keep : GoodIn wsL_law (wsV RL 194 RX9 yX9_keep wsX9_keep) := goodIn_app (goodIn_of _ (by decide +kernel)) ggL_law_X9_keep
set_option maxRecDepth 20000 in
theorem ggL_law_X8_again : GoodIn wsL_law wsX8_again := goodIn_r _ [1238, 1229, 16, 17, 159, 297, 298, 299, 15, 300, 166, 167, 60, 164, 53, 54, 55, 56, 57, 59, 301, 302, 303, 304, 52, 165, 1243, 1244, 1245, 1246, 1247, 1248, 1249, 1250, 1251, 1252, 1253, 1254, 1255, 1285, 1286, 1287, 1288, 1289, 1290, 1291, 1292, 1293, 1294, 1295, 1296] (by decide +kernel) (by decide +kernel)
set_option maxRecDepth 20000 in
theorem gL_law_X8_again : GoodIn wsL_law (wsV RL 195 RX8 yX8_again wsX8_again) := goodIn_app (goodIn_of _ (by decide +kernel)) ggL_law_X8_again
set_option maxRecDepth 20000 in
theorem ggL_law_X9_again : GoodIn wsL_law wsX9_again := goodIn_r _ [1242, 1234, 111, 112, 1256, 1257, 1258, 1259, 1260, 1261, 1262, 1263, 1264, 1265, 1266, 1267, 1268, 1269, 1270, 1271, 1272, 1273, 1274, 1275, 1276, 1277, 1278, 1279, 1280, 1281, 1282, 1283, 1284] (by decide +kernel) (by decide +kernel)
set_option maxRecDepth 20000 in
theorem gL_law_X9_again : GoodIn wsL_law (wsV RL 198 RX9 yX9_again wsX9_again) := goodIn_app (goodIn_of _ (by decide +kernel)) ggL_law_X9_again
