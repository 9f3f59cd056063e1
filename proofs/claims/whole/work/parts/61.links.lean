def rp_ft : List (Nat × Nat × Nat × Nat × Nat) := [(5, 22, 5, 0, 120), (5, 13, 5, 1, 121), (5, 19, 5, 2, 122), (5, 26, 5, 3, 123), (0, 14, 0, 0, 150), (7, 65, 0, 0, 151), (2, 80, 0, 0, 152), (0, 20, 0, 1, 153), (3, 65, 0, 1, 154), (7, 100, 0, 1, 155), (0, 23, 0, 2, 156), (3, 31, 0, 2, 157), (7, 127, 0, 2, 158), (0, 26, 0, 3, 159), (7, 143, 0, 3, 160), (0, 29, 0, 4, 161), (7, 169, 0, 4, 162), (0, 32, 0, 5, 163), (3, 52, 0, 5, 164), (7, 186, 0, 5, 165), (0, 35, 0, 6, 166), (2, 18, 0, 6, 167), (7, 235, 0, 6, 168), (0, 46, 0, 7, 169), (7, 107, 0, 7, 170), (1, 9, 1, 0, 194), (1, 18, 1, 1, 195), (1, 33, 1, 2, 196), (1, 48, 1, 3, 197), (1, 15, 1, 4, 198), (1, 51, 1, 5, 199), (1, 22, 1, 6, 200), (6, 9, 6, 0, 227), (3, 9, 3, 0, 237), (3, 15, 3, 1, 238), (3, 18, 3, 2, 239), (3, 24, 3, 3, 240), (3, 21, 3, 4, 241), (3, 97, 3, 5, 242), (3, 43, 3, 6, 243), (3, 46, 3, 7, 244), (3, 49, 3, 8, 245), (3, 28, 3, 9, 246), (3, 115, 3, 10, 247), (3, 122, 3, 11, 248), (3, 125, 3, 12, 249), (3, 128, 3, 13, 250), (4, 14, 4, 0, 288), (7, 226, 4, 0, 289), (2, 9, 2, 0, 299), (2, 38, 2, 1, 300), (2, 28, 2, 2, 301), (2, 32, 2, 3, 302), (2, 35, 2, 4, 303), (2, 15, 2, 5, 304), (7, 12, 7, 0, 318), (7, 16, 7, 1, 319), (7, 275, 7, 2, 320), (7, 22, 7, 3, 321), (7, 29, 7, 4, 322), (7, 36, 7, 5, 323), (7, 43, 7, 6, 324), (7, 50, 7, 7, 325), (8, 7, 8, 0, 986), (8, 13, 8, 1, 987), (8, 16, 8, 2, 988), (8, 19, 8, 3, 989), (8, 22, 8, 4, 990), (8, 25, 8, 5, 991), (8, 28, 8, 6, 992), (8, 31, 8, 7, 993), (8, 34, 8, 8, 994), (8, 82, 8, 9, 995), (8, 97, 8, 10, 996), (8, 91, 8, 11, 997), (8, 88, 8, 12, 998), (8, 94, 8, 13, 999), (8, 106, 8, 14, 1000), (8, 127, 8, 15, 1001), (8, 37, 8, 16, 1002), (8, 40, 8, 17, 1003), (8, 43, 8, 18, 1004), (8, 199, 8, 19, 1005), (8, 202, 8, 20, 1006), (8, 205, 8, 21, 1007), (8, 47, 8, 22, 1008), (8, 221, 8, 23, 1009), (8, 50, 8, 24, 1010), (8, 231, 8, 25, 1011), (8, 53, 8, 26, 1012), (8, 56, 8, 27, 1013), (8, 59, 8, 28, 1014), (8, 62, 8, 29, 1015), (8, 275, 8, 30, 1016), (8, 65, 8, 31, 1017), (8, 264, 8, 32, 1018)]
theorem rp_ft_ok : ∀ q ∈ rp_ft, lw_tbl[q.2.2.2.2]? = some (.fieldLink (rp_cn q.1) q.2.1 (rp_cn q.2.2.1) (rp_TT q.2.2.1 q.2.2.2.1).2.1 (rp_TT q.2.2.1 q.2.2.2.1).2.2.1) ∧ q.2.2.1 < 9 ∧ q.2.2.2.1 < rp_NN q.2.2.1 := by decide +kernel
def rp_nt : List (Nat × Nat × Nat × Nat) := [(9, 7, 7, 97), (7, 9, 0, 105), (0, 9, 5, 111), (7, 19, 1, 188), (7, 26, 6, 216), (7, 33, 3, 231), (7, 40, 4, 280), (4, 9, 5, 286), (7, 47, 2, 293), (9, 10, 8, 980)]
theorem rp_nt_ok : ∀ q ∈ rp_nt, lw_tbl[q.2.2.2]? = some (.classLink (rp_cn q.1) q.2.1 (rp_cn q.2.2.1)) ∧ q.2.2.1 < 9 := by decide +kernel
def rp_kti : List (Nat × Nat × Int32 × Nat) := [(6, 39, 536870912, 226), (8, 234, 100000000, 1337)]
theorem rp_kti_ok : ∀ q ∈ rp_kti, lw_tbl[q.2.2.2]? = some (.constant (rp_cn q.1) q.2.1 q.2.2.1) := by decide +kernel
def rp_ktl : List (Nat × Nat × Int64 × Nat) := [(1, 25, 255, 422), (8, 86, 255, 1121), (9, 33, 4294967295, 1406)]
theorem rp_ktl_ok : ∀ q ∈ rp_ktl, lw_tbl[q.2.2.2]? = some (.constantLong (rp_cn q.1) q.2.1 q.2.2.1) := by decide +kernel
def rp_si : List Nat := [102, 104, 106, 108, 110, 112, 114, 116, 118, 120, 87, 70]
def rp_sn : List String := ["days", "price", "rail", "line", "night", "fast", "boat", "child", "refund", "lost", "of", "out"]
def rp_mq : List (Nat × Nat × Nat × Nat) := [(101, 100, 0, 0), (109, 108, 0, 0), (115, 114, 0, 2), (137, 135, 136, 0), (141, 139, 140, 0), (145, 143, 144, 3), (149, 148, 0, 2), (192, 191, 0, 0), (220, 219, 0, 0), (225, 224, 1, 0), (235, 234, 0, 0), (284, 283, 0, 0), (297, 296, 0, 0), (346, 344, 345, 5), (349, 348, 0, 1), (352, 351, 0, 3), (355, 354, 0, 1), (361, 360, 0, 1), (365, 363, 364, 1), (369, 367, 368, 0), (373, 371, 372, 2), (377, 376, 2, 3), (382, 380, 381, 2), (386, 385, 3, 2), (390, 388, 389, 6), (394, 392, 393, 1), (397, 396, 0, 1), (400, 399, 0, 1), (405, 403, 404, 2), (409, 407, 408, 1), (413, 411, 412, 2), (417, 415, 416, 0), (421, 419, 420, 2), (426, 424, 425, 1), (430, 428, 429, 0), (434, 433, 4, 0), (438, 437, 5, 2), (442, 441, 6, 0), (446, 445, 7, 1), (452, 451, 0, 1), (456, 455, 8, 0), (460, 459, 9, 0), (463, 462, 0, 1), (477, 476, 10, 1), (529, 528, 11, 1), (532, 531, 0, 1), (536, 535, 12, 0), (540, 539, 13, 2), (546, 545, 14, 1), (550, 549, 15, 1), (553, 552, 0, 1), (557, 555, 556, 1), (561, 560, 16, 1), (566, 565, 17, 0), (570, 568, 569, 0), (573, 572, 0, 1), (578, 576, 577, 0), (583, 581, 582, 2), (587, 585, 586, 1), (592, 590, 591, 3), (595, 594, 0, 1), (599, 597, 598, 3), (603, 602, 0, 2), (607, 605, 606, 2), (611, 609, 610, 1), (616, 615, 18, 3), (620, 618, 619, 1), (624, 622, 623, 1), (628, 626, 627, 1), (632, 630, 631, 1), (637, 635, 636, 1), (641, 639, 640, 3), (645, 643, 644, 3), (649, 647, 648, 4), (653, 651, 652, 3), (658, 656, 657, 2), (662, 660, 661, 3), (666, 664, 665, 3), (670, 668, 669, 3), (674, 672, 673, 2), (678, 676, 677, 1), (682, 680, 681, 1), (689, 687, 688, 2), (694, 692, 693, 1), (699, 697, 698, 2), (703, 701, 702, 0), (707, 705, 706, 1), (711, 709, 710, 1), (715, 713, 714, 2), (721, 720, 19, 4), (727, 726, 20, 1), (731, 730, 21, 1), (735, 734, 22, 1), (739, 738, 23, 1), (743, 742, 24, 4), (748, 747, 25, 0), (752, 751, 26, 1), (756, 755, 27, 1), (760, 759, 28, 2), (764, 762, 763, 1), (768, 767, 29, 2), (772, 770, 771, 0), (776, 774, 775, 0), (780, 778, 779, 0), (784, 782, 783, 0), (794, 792, 793, 0), (798, 797, 30, 1), (802, 800, 801, 1), (806, 804, 805, 2), (812, 810, 811, 0), (816, 814, 815, 2), (821, 819, 820, 1), (825, 823, 824, 2), (829, 827, 828, 0), (836, 834, 835, 2), (840, 838, 839, 3), (844, 842, 843, 0), (848, 846, 847, 2), (852, 851, 31, 4), (859, 857, 858, 4), (863, 862, 32, 1), (867, 865, 866, 2), (872, 870, 871, 2), (876, 874, 875, 2), (880, 878, 879, 2), (884, 882, 883, 3), (888, 886, 887, 4), (892, 891, 33, 3), (898, 897, 34, 2), (902, 901, 35, 1), (905, 904, 0, 2), (909, 908, 36, 2), (913, 912, 37, 4), (920, 919, 38, 2), (924, 922, 923, 0), (928, 926, 927, 0), (932, 930, 931, 0), (936, 934, 935, 0), (940, 938, 939, 1), (945, 943, 944, 3), (949, 947, 948, 2), (954, 952, 953, 2), (958, 956, 957, 1), (962, 960, 961, 0), (966, 964, 965, 0), (970, 968, 969, 1), (974, 972, 973, 1), (979, 977, 978, 0), (984, 983, 0, 0), (1090, 1088, 1089, 5), (1093, 1092, 0, 1), (1096, 1095, 0, 3), (1100, 1098, 1099, 6), (1104, 1102, 1103, 2), (1108, 1107, 39, 1), (1112, 1111, 40, 1), (1116, 1114, 1115, 1), (1120, 1118, 1119, 2), (1125, 1123, 1124, 1), (1128, 1127, 0, 1), (1132, 1131, 41, 0), (1135, 1134, 0, 1), (1138, 1137, 0, 1), (1142, 1141, 42, 0), (1146, 1145, 43, 0), (1150, 1149, 44, 1), (1154, 1153, 45, 0), (1158, 1157, 46, 2), (1162, 1161, 47, 1), (1166, 1165, 48, 2), (1170, 1168, 1169, 2), (1174, 1173, 49, 1), (1178, 1176, 1177, 3), (1181, 1180, 0, 1), (1185, 1183, 1184, 3), (1189, 1188, 50, 3), (1193, 1192, 51, 1), (1197, 1196, 52, 3), (1201, 1200, 53, 3), (1204, 1203, 0, 4), (1208, 1207, 54, 3), (1212, 1211, 55, 3), (1216, 1215, 56, 1), (1220, 1219, 57, 1), (1224, 1223, 58, 2), (1228, 1226, 1227, 3), (1232, 1231, 59, 3), (1236, 1234, 1235, 2), (1240, 1239, 60, 1), (1244, 1242, 1243, 1), (1248, 1246, 1247, 2), (1252, 1250, 1251, 2), (1256, 1255, 61, 1), (1260, 1258, 1259, 1), (1264, 1262, 1263, 2), (1268, 1266, 1267, 0), (1272, 1270, 1271, 2), (1276, 1275, 62, 2), (1280, 1279, 63, 2), (1284, 1283, 64, 2), (1288, 1287, 65, 2), (1292, 1291, 66, 0), (1296, 1294, 1295, 1), (1300, 1299, 67, 1), (1304, 1302, 1303, 0), (1308, 1307, 68, 0), (1312, 1311, 69, 2), (1316, 1314, 1315, 2), (1320, 1318, 1319, 3), (1324, 1322, 1323, 0), (1328, 1326, 1327, 2), (1332, 1331, 70, 3), (1336, 1335, 71, 1), (1341, 1339, 1340, 2), (1345, 1343, 1344, 4), (1349, 1347, 1348, 3), (1353, 1352, 72, 1), (1357, 1356, 73, 2), (1361, 1360, 74, 3), (1365, 1364, 75, 1), (1369, 1368, 76, 2), (1373, 1371, 1372, 3), (1377, 1376, 77, 4), (1381, 1380, 78, 1), (1385, 1383, 1384, 2), (1389, 1387, 1388, 1), (1393, 1391, 1392, 0), (1397, 1396, 79, 1), (1401, 1400, 80, 3), (1405, 1403, 1404, 0)]
/-- what is known of a method -/
def rp_MF (c : Nat) : Prop := Cond.code (rp_mt c).1 (rp_mt c).2.1 (rp_mt c).2.2.1 (rp_mt c).2.2.2.1 ∈ rp_gt ∧ Cond.initialized (rp_mt c).1.cls ∈ rp_gt ∧ (rp_mt c).1.cls = rp_cn (rp_mt c).2.2.2.2.1 ∧ plainName (rp_mt c).1.cls = true ∧ ((rp_mt c).1.cls ≠ "java/lang/invoke/MethodHandle" ∧ (rp_mt c).1.cls ≠ "java/lang/invoke/VarHandle" ∧ (parseMethodDescriptor (rp_mt c).1.desc).map (fun d => d.parameters.length) = some (rp_mq.getD c (0, 0, 0, 0)).2.2.2) ∧ (rp_mt c).2.2.2.2.1 < 9
set_option maxRecDepth 20000 in
theorem rp_MF0 : rp_MF 0 := ⟨rp_gt_of 101 rfl rfl, rp_ini7, rfl, by decide +kernel, ⟨by decide +kernel, by decide +kernel, by decide +kernel⟩, by decide +kernel⟩
set_option maxRecDepth 20000 in
theorem rp_MF1 : rp_MF 1 := ⟨rp_gt_of 109 rfl rfl, rp_ini0, rfl, by decide +kernel, ⟨by decide +kernel, by decide +kernel, by decide +kernel⟩, by decide +kernel⟩
set_option maxRecDepth 20000 in
theorem rp_MF2 : rp_MF 2 := ⟨rp_gt_of 115 rfl rfl, rp_ini5, rfl, by decide +kernel, ⟨by decide +kernel, by decide +kernel, by decide +kernel⟩, by decide +kernel⟩
set_option maxRecDepth 20000 in
theorem rp_MF3 : rp_MF 3 := ⟨rp_gt_of 137 rfl rfl, rp_ini5, rfl, by decide +kernel, ⟨by decide +kernel, by decide +kernel, by decide +kernel⟩, by decide +kernel⟩
set_option maxRecDepth 20000 in
theorem rp_MF4 : rp_MF 4 := ⟨rp_gt_of 141 rfl rfl, rp_ini5, rfl, by decide +kernel, ⟨by decide +kernel, by decide +kernel, by decide +kernel⟩, by decide +kernel⟩
set_option maxRecDepth 20000 in
theorem rp_MF5 : rp_MF 5 := ⟨rp_gt_of 145 rfl rfl, rp_ini5, rfl, by decide +kernel, ⟨by decide +kernel, by decide +kernel, by decide +kernel⟩, by decide +kernel⟩
set_option maxRecDepth 20000 in
theorem rp_MF6 : rp_MF 6 := ⟨rp_gt_of 149 rfl rfl, rp_ini5, rfl, by decide +kernel, ⟨by decide +kernel, by decide +kernel, by decide +kernel⟩, by decide +kernel⟩
set_option maxRecDepth 20000 in
theorem rp_MF7 : rp_MF 7 := ⟨rp_gt_of 192 rfl rfl, rp_ini1, rfl, by decide +kernel, ⟨by decide +kernel, by decide +kernel, by decide +kernel⟩, by decide +kernel⟩
set_option maxRecDepth 20000 in
theorem rp_MF8 : rp_MF 8 := ⟨rp_gt_of 220 rfl rfl, rp_ini6, rfl, by decide +kernel, ⟨by decide +kernel, by decide +kernel, by decide +kernel⟩, by decide +kernel⟩
set_option maxRecDepth 20000 in
theorem rp_MF9 : rp_MF 9 := ⟨rp_gt_of 225 rfl rfl, rp_ini6, rfl, by decide +kernel, ⟨by decide +kernel, by decide +kernel, by decide +kernel⟩, by decide +kernel⟩
set_option maxRecDepth 20000 in
theorem rp_MF10 : rp_MF 10 := ⟨rp_gt_of 235 rfl rfl, rp_ini3, rfl, by decide +kernel, ⟨by decide +kernel, by decide +kernel, by decide +kernel⟩, by decide +kernel⟩
set_option maxRecDepth 20000 in
theorem rp_MF11 : rp_MF 11 := ⟨rp_gt_of 284 rfl rfl, rp_ini4, rfl, by decide +kernel, ⟨by decide +kernel, by decide +kernel, by decide +kernel⟩, by decide +kernel⟩
set_option maxRecDepth 20000 in
theorem rp_MF12 : rp_MF 12 := ⟨rp_gt_of 297 rfl rfl, rp_ini2, rfl, by decide +kernel, ⟨by decide +kernel, by decide +kernel, by decide +kernel⟩, by decide +kernel⟩
set_option maxRecDepth 20000 in
theorem rp_MF13 : rp_MF 13 := ⟨rp_gt_of 346 rfl rfl, rp_ini7, rfl, by decide +kernel, ⟨by decide +kernel, by decide +kernel, by decide +kernel⟩, by decide +kernel⟩
set_option maxRecDepth 20000 in
theorem rp_MF14 : rp_MF 14 := ⟨rp_gt_of 349 rfl rfl, rp_ini7, rfl, by decide +kernel, ⟨by decide +kernel, by decide +kernel, by decide +kernel⟩, by decide +kernel⟩
set_option maxRecDepth 20000 in
theorem rp_MF15 : rp_MF 15 := ⟨rp_gt_of 352 rfl rfl, rp_ini7, rfl, by decide +kernel, ⟨by decide +kernel, by decide +kernel, by decide +kernel⟩, by decide +kernel⟩
set_option maxRecDepth 20000 in
theorem rp_MF16 : rp_MF 16 := ⟨rp_gt_of 355 rfl rfl, rp_ini7, rfl, by decide +kernel, ⟨by decide +kernel, by decide +kernel, by decide +kernel⟩, by decide +kernel⟩
set_option maxRecDepth 20000 in
theorem rp_MF17 : rp_MF 17 := ⟨rp_gt_of 361 rfl rfl, rp_ini7, rfl, by decide +kernel, ⟨by decide +kernel, by decide +kernel, by decide +kernel⟩, by decide +kernel⟩
set_option maxRecDepth 20000 in
theorem rp_MF18 : rp_MF 18 := ⟨rp_gt_of 365 rfl rfl, rp_ini6, rfl, by decide +kernel, ⟨by decide +kernel, by decide +kernel, by decide +kernel⟩, by decide +kernel⟩
set_option maxRecDepth 20000 in
theorem rp_MF19 : rp_MF 19 := ⟨rp_gt_of 369 rfl rfl, rp_ini5, rfl, by decide +kernel, ⟨by decide +kernel, by decide +kernel, by decide +kernel⟩, by decide +kernel⟩
set_option maxRecDepth 20000 in
theorem rp_MF20 : rp_MF 20 := ⟨rp_gt_of 373 rfl rfl, rp_ini5, rfl, by decide +kernel, ⟨by decide +kernel, by decide +kernel, by decide +kernel⟩, by decide +kernel⟩
set_option maxRecDepth 20000 in
theorem rp_MF21 : rp_MF 21 := ⟨rp_gt_of 377 rfl rfl, rp_ini6, rfl, by decide +kernel, ⟨by decide +kernel, by decide +kernel, by decide +kernel⟩, by decide +kernel⟩
set_option maxRecDepth 20000 in
theorem rp_MF22 : rp_MF 22 := ⟨rp_gt_of 382 rfl rfl, rp_ini6, rfl, by decide +kernel, ⟨by decide +kernel, by decide +kernel, by decide +kernel⟩, by decide +kernel⟩
set_option maxRecDepth 20000 in
theorem rp_MF23 : rp_MF 23 := ⟨rp_gt_of 386 rfl rfl, rp_ini6, rfl, by decide +kernel, ⟨by decide +kernel, by decide +kernel, by decide +kernel⟩, by decide +kernel⟩
set_option maxRecDepth 20000 in
theorem rp_MF24 : rp_MF 24 := ⟨rp_gt_of 390 rfl rfl, rp_ini7, rfl, by decide +kernel, ⟨by decide +kernel, by decide +kernel, by decide +kernel⟩, by decide +kernel⟩
set_option maxRecDepth 20000 in
theorem rp_MF25 : rp_MF 25 := ⟨rp_gt_of 394 rfl rfl, rp_ini5, rfl, by decide +kernel, ⟨by decide +kernel, by decide +kernel, by decide +kernel⟩, by decide +kernel⟩
set_option maxRecDepth 20000 in
theorem rp_MF26 : rp_MF 26 := ⟨rp_gt_of 397 rfl rfl, rp_ini7, rfl, by decide +kernel, ⟨by decide +kernel, by decide +kernel, by decide +kernel⟩, by decide +kernel⟩
set_option maxRecDepth 20000 in
theorem rp_MF27 : rp_MF 27 := ⟨rp_gt_of 400 rfl rfl, rp_ini7, rfl, by decide +kernel, ⟨by decide +kernel, by decide +kernel, by decide +kernel⟩, by decide +kernel⟩
set_option maxRecDepth 20000 in
theorem rp_MF28 : rp_MF 28 := ⟨rp_gt_of 405 rfl rfl, rp_ini7, rfl, by decide +kernel, ⟨by decide +kernel, by decide +kernel, by decide +kernel⟩, by decide +kernel⟩
set_option maxRecDepth 20000 in
theorem rp_MF29 : rp_MF 29 := ⟨rp_gt_of 409 rfl rfl, rp_ini7, rfl, by decide +kernel, ⟨by decide +kernel, by decide +kernel, by decide +kernel⟩, by decide +kernel⟩
set_option maxRecDepth 20000 in
theorem rp_MF30 : rp_MF 30 := ⟨rp_gt_of 413 rfl rfl, rp_ini7, rfl, by decide +kernel, ⟨by decide +kernel, by decide +kernel, by decide +kernel⟩, by decide +kernel⟩
set_option maxRecDepth 20000 in
theorem rp_MF31 : rp_MF 31 := ⟨rp_gt_of 417 rfl rfl, rp_ini1, rfl, by decide +kernel, ⟨by decide +kernel, by decide +kernel, by decide +kernel⟩, by decide +kernel⟩
set_option maxRecDepth 20000 in
theorem rp_MF32 : rp_MF 32 := ⟨rp_gt_of 421 rfl rfl, rp_ini1, rfl, by decide +kernel, ⟨by decide +kernel, by decide +kernel, by decide +kernel⟩, by decide +kernel⟩
set_option maxRecDepth 20000 in
theorem rp_MF33 : rp_MF 33 := ⟨rp_gt_of 426 rfl rfl, rp_ini7, rfl, by decide +kernel, ⟨by decide +kernel, by decide +kernel, by decide +kernel⟩, by decide +kernel⟩
set_option maxRecDepth 20000 in
theorem rp_MF34 : rp_MF 34 := ⟨rp_gt_of 430 rfl rfl, rp_ini1, rfl, by decide +kernel, ⟨by decide +kernel, by decide +kernel, by decide +kernel⟩, by decide +kernel⟩
set_option maxRecDepth 20000 in
theorem rp_MF35 : rp_MF 35 := ⟨rp_gt_of 434 rfl rfl, rp_ini1, rfl, by decide +kernel, ⟨by decide +kernel, by decide +kernel, by decide +kernel⟩, by decide +kernel⟩
set_option maxRecDepth 20000 in
theorem rp_MF36 : rp_MF 36 := ⟨rp_gt_of 438 rfl rfl, rp_ini1, rfl, by decide +kernel, ⟨by decide +kernel, by decide +kernel, by decide +kernel⟩, by decide +kernel⟩
set_option maxRecDepth 20000 in
theorem rp_MF37 : rp_MF 37 := ⟨rp_gt_of 442 rfl rfl, rp_ini1, rfl, by decide +kernel, ⟨by decide +kernel, by decide +kernel, by decide +kernel⟩, by decide +kernel⟩
set_option maxRecDepth 20000 in
theorem rp_MF38 : rp_MF 38 := ⟨rp_gt_of 446 rfl rfl, rp_ini1, rfl, by decide +kernel, ⟨by decide +kernel, by decide +kernel, by decide +kernel⟩, by decide +kernel⟩
set_option maxRecDepth 20000 in
theorem rp_MF39 : rp_MF 39 := ⟨rp_gt_of 452 rfl rfl, rp_ini1, rfl, by decide +kernel, ⟨by decide +kernel, by decide +kernel, by decide +kernel⟩, by decide +kernel⟩
set_option maxRecDepth 20000 in
theorem rp_MF40 : rp_MF 40 := ⟨rp_gt_of 456 rfl rfl, rp_ini1, rfl, by decide +kernel, ⟨by decide +kernel, by decide +kernel, by decide +kernel⟩, by decide +kernel⟩
set_option maxRecDepth 20000 in
theorem rp_MF41 : rp_MF 41 := ⟨rp_gt_of 460 rfl rfl, rp_ini1, rfl, by decide +kernel, ⟨by decide +kernel, by decide +kernel, by decide +kernel⟩, by decide +kernel⟩
set_option maxRecDepth 20000 in
theorem rp_MF42 : rp_MF 42 := ⟨rp_gt_of 463 rfl rfl, rp_ini1, rfl, by decide +kernel, ⟨by decide +kernel, by decide +kernel, by decide +kernel⟩, by decide +kernel⟩
set_option maxRecDepth 20000 in
theorem rp_MF43 : rp_MF 43 := ⟨rp_gt_of 477 rfl rfl, rp_ini1, rfl, by decide +kernel, ⟨by decide +kernel, by decide +kernel, by decide +kernel⟩, by decide +kernel⟩
set_option maxRecDepth 20000 in
theorem rp_MF44 : rp_MF 44 := ⟨rp_gt_of 529 rfl rfl, rp_ini1, rfl, by decide +kernel, ⟨by decide +kernel, by decide +kernel, by decide +kernel⟩, by decide +kernel⟩
set_option maxRecDepth 20000 in
theorem rp_MF45 : rp_MF 45 := ⟨rp_gt_of 532 rfl rfl, rp_ini1, rfl, by decide +kernel, ⟨by decide +kernel, by decide +kernel, by decide +kernel⟩, by decide +kernel⟩
set_option maxRecDepth 20000 in
theorem rp_MF46 : rp_MF 46 := ⟨rp_gt_of 536 rfl rfl, rp_ini1, rfl, by decide +kernel, ⟨by decide +kernel, by decide +kernel, by decide +kernel⟩, by decide +kernel⟩
set_option maxRecDepth 20000 in
theorem rp_MF47 : rp_MF 47 := ⟨rp_gt_of 540 rfl rfl, rp_ini1, rfl, by decide +kernel, ⟨by decide +kernel, by decide +kernel, by decide +kernel⟩, by decide +kernel⟩
set_option maxRecDepth 20000 in
theorem rp_MF48 : rp_MF 48 := ⟨rp_gt_of 546 rfl rfl, rp_ini1, rfl, by decide +kernel, ⟨by decide +kernel, by decide +kernel, by decide +kernel⟩, by decide +kernel⟩
set_option maxRecDepth 20000 in
theorem rp_MF49 : rp_MF 49 := ⟨rp_gt_of 550 rfl rfl, rp_ini1, rfl, by decide +kernel, ⟨by decide +kernel, by decide +kernel, by decide +kernel⟩, by decide +kernel⟩
set_option maxRecDepth 20000 in
theorem rp_MF50 : rp_MF 50 := ⟨rp_gt_of 553 rfl rfl, rp_ini1, rfl, by decide +kernel, ⟨by decide +kernel, by decide +kernel, by decide +kernel⟩, by decide +kernel⟩
set_option maxRecDepth 20000 in
theorem rp_MF51 : rp_MF 51 := ⟨rp_gt_of 557 rfl rfl, rp_ini1, rfl, by decide +kernel, ⟨by decide +kernel, by decide +kernel, by decide +kernel⟩, by decide +kernel⟩
set_option maxRecDepth 20000 in
theorem rp_MF52 : rp_MF 52 := ⟨rp_gt_of 561 rfl rfl, rp_ini1, rfl, by decide +kernel, ⟨by decide +kernel, by decide +kernel, by decide +kernel⟩, by decide +kernel⟩
set_option maxRecDepth 20000 in
theorem rp_MF53 : rp_MF 53 := ⟨rp_gt_of 566 rfl rfl, rp_ini1, rfl, by decide +kernel, ⟨by decide +kernel, by decide +kernel, by decide +kernel⟩, by decide +kernel⟩
set_option maxRecDepth 20000 in
theorem rp_MF54 : rp_MF 54 := ⟨rp_gt_of 570 rfl rfl, rp_ini1, rfl, by decide +kernel, ⟨by decide +kernel, by decide +kernel, by decide +kernel⟩, by decide +kernel⟩
set_option maxRecDepth 20000 in
theorem rp_MF55 : rp_MF 55 := ⟨rp_gt_of 573 rfl rfl, rp_ini7, rfl, by decide +kernel, ⟨by decide +kernel, by decide +kernel, by decide +kernel⟩, by decide +kernel⟩
set_option maxRecDepth 20000 in
theorem rp_MF56 : rp_MF 56 := ⟨rp_gt_of 578 rfl rfl, rp_ini1, rfl, by decide +kernel, ⟨by decide +kernel, by decide +kernel, by decide +kernel⟩, by decide +kernel⟩
set_option maxRecDepth 20000 in
theorem rp_MF57 : rp_MF 57 := ⟨rp_gt_of 583 rfl rfl, rp_ini7, rfl, by decide +kernel, ⟨by decide +kernel, by decide +kernel, by decide +kernel⟩, by decide +kernel⟩
set_option maxRecDepth 20000 in
theorem rp_MF58 : rp_MF 58 := ⟨rp_gt_of 587 rfl rfl, rp_ini0, rfl, by decide +kernel, ⟨by decide +kernel, by decide +kernel, by decide +kernel⟩, by decide +kernel⟩
set_option maxRecDepth 20000 in
theorem rp_MF59 : rp_MF 59 := ⟨rp_gt_of 592 rfl rfl, rp_ini7, rfl, by decide +kernel, ⟨by decide +kernel, by decide +kernel, by decide +kernel⟩, by decide +kernel⟩
set_option maxRecDepth 20000 in
theorem rp_MF60 : rp_MF 60 := ⟨rp_gt_of 595 rfl rfl, rp_ini7, rfl, by decide +kernel, ⟨by decide +kernel, by decide +kernel, by decide +kernel⟩, by decide +kernel⟩
set_option maxRecDepth 20000 in
theorem rp_MF61 : rp_MF 61 := ⟨rp_gt_of 599 rfl rfl, rp_ini0, rfl, by decide +kernel, ⟨by decide +kernel, by decide +kernel, by decide +kernel⟩, by decide +kernel⟩
set_option maxRecDepth 20000 in
theorem rp_MF62 : rp_MF 62 := ⟨rp_gt_of 603 rfl rfl, rp_ini7, rfl, by decide +kernel, ⟨by decide +kernel, by decide +kernel, by decide +kernel⟩, by decide +kernel⟩
set_option maxRecDepth 20000 in
theorem rp_MF63 : rp_MF 63 := ⟨rp_gt_of 607 rfl rfl, rp_ini7, rfl, by decide +kernel, ⟨by decide +kernel, by decide +kernel, by decide +kernel⟩, by decide +kernel⟩
set_option maxRecDepth 20000 in
theorem rp_MF64 : rp_MF 64 := ⟨rp_gt_of 611 rfl rfl, rp_ini0, rfl, by decide +kernel, ⟨by decide +kernel, by decide +kernel, by decide +kernel⟩, by decide +kernel⟩
set_option maxRecDepth 20000 in
theorem rp_MF65 : rp_MF 65 := ⟨rp_gt_of 616 rfl rfl, rp_ini0, rfl, by decide +kernel, ⟨by decide +kernel, by decide +kernel, by decide +kernel⟩, by decide +kernel⟩
set_option maxRecDepth 20000 in
theorem rp_MF66 : rp_MF 66 := ⟨rp_gt_of 620 rfl rfl, rp_ini0, rfl, by decide +kernel, ⟨by decide +kernel, by decide +kernel, by decide +kernel⟩, by decide +kernel⟩
set_option maxRecDepth 20000 in
theorem rp_MF67 : rp_MF 67 := ⟨rp_gt_of 624 rfl rfl, rp_ini0, rfl, by decide +kernel, ⟨by decide +kernel, by decide +kernel, by decide +kernel⟩, by decide +kernel⟩
set_option maxRecDepth 20000 in
theorem rp_MF68 : rp_MF 68 := ⟨rp_gt_of 628 rfl rfl, rp_ini0, rfl, by decide +kernel, ⟨by decide +kernel, by decide +kernel, by decide +kernel⟩, by decide +kernel⟩
set_option maxRecDepth 20000 in
theorem rp_MF69 : rp_MF 69 := ⟨rp_gt_of 632 rfl rfl, rp_ini0, rfl, by decide +kernel, ⟨by decide +kernel, by decide +kernel, by decide +kernel⟩, by decide +kernel⟩
set_option maxRecDepth 20000 in
theorem rp_MF70 : rp_MF 70 := ⟨rp_gt_of 637 rfl rfl, rp_ini0, rfl, by decide +kernel, ⟨by decide +kernel, by decide +kernel, by decide +kernel⟩, by decide +kernel⟩
set_option maxRecDepth 20000 in
theorem rp_MF71 : rp_MF 71 := ⟨rp_gt_of 641 rfl rfl, rp_ini7, rfl, by decide +kernel, ⟨by decide +kernel, by decide +kernel, by decide +kernel⟩, by decide +kernel⟩
set_option maxRecDepth 20000 in
theorem rp_MF72 : rp_MF 72 := ⟨rp_gt_of 645 rfl rfl, rp_ini0, rfl, by decide +kernel, ⟨by decide +kernel, by decide +kernel, by decide +kernel⟩, by decide +kernel⟩
set_option maxRecDepth 20000 in
theorem rp_MF73 : rp_MF 73 := ⟨rp_gt_of 649 rfl rfl, rp_ini0, rfl, by decide +kernel, ⟨by decide +kernel, by decide +kernel, by decide +kernel⟩, by decide +kernel⟩
set_option maxRecDepth 20000 in
theorem rp_MF74 : rp_MF 74 := ⟨rp_gt_of 653 rfl rfl, rp_ini0, rfl, by decide +kernel, ⟨by decide +kernel, by decide +kernel, by decide +kernel⟩, by decide +kernel⟩
set_option maxRecDepth 20000 in
theorem rp_MF75 : rp_MF 75 := ⟨rp_gt_of 658 rfl rfl, rp_ini0, rfl, by decide +kernel, ⟨by decide +kernel, by decide +kernel, by decide +kernel⟩, by decide +kernel⟩
set_option maxRecDepth 20000 in
theorem rp_MF76 : rp_MF 76 := ⟨rp_gt_of 662 rfl rfl, rp_ini7, rfl, by decide +kernel, ⟨by decide +kernel, by decide +kernel, by decide +kernel⟩, by decide +kernel⟩
set_option maxRecDepth 20000 in
theorem rp_MF77 : rp_MF 77 := ⟨rp_gt_of 666 rfl rfl, rp_ini0, rfl, by decide +kernel, ⟨by decide +kernel, by decide +kernel, by decide +kernel⟩, by decide +kernel⟩
set_option maxRecDepth 20000 in
theorem rp_MF78 : rp_MF 78 := ⟨rp_gt_of 670 rfl rfl, rp_ini0, rfl, by decide +kernel, ⟨by decide +kernel, by decide +kernel, by decide +kernel⟩, by decide +kernel⟩
set_option maxRecDepth 20000 in
theorem rp_MF79 : rp_MF 79 := ⟨rp_gt_of 674 rfl rfl, rp_ini7, rfl, by decide +kernel, ⟨by decide +kernel, by decide +kernel, by decide +kernel⟩, by decide +kernel⟩
set_option maxRecDepth 20000 in
theorem rp_MF80 : rp_MF 80 := ⟨rp_gt_of 678 rfl rfl, rp_ini7, rfl, by decide +kernel, ⟨by decide +kernel, by decide +kernel, by decide +kernel⟩, by decide +kernel⟩
set_option maxRecDepth 20000 in
theorem rp_MF81 : rp_MF 81 := ⟨rp_gt_of 682 rfl rfl, rp_ini5, rfl, by decide +kernel, ⟨by decide +kernel, by decide +kernel, by decide +kernel⟩, by decide +kernel⟩
set_option maxRecDepth 20000 in
theorem rp_MF82 : rp_MF 82 := ⟨rp_gt_of 689 rfl rfl, rp_ini7, rfl, by decide +kernel, ⟨by decide +kernel, by decide +kernel, by decide +kernel⟩, by decide +kernel⟩
set_option maxRecDepth 20000 in
theorem rp_MF83 : rp_MF 83 := ⟨rp_gt_of 694 rfl rfl, rp_ini7, rfl, by decide +kernel, ⟨by decide +kernel, by decide +kernel, by decide +kernel⟩, by decide +kernel⟩
set_option maxRecDepth 20000 in
theorem rp_MF84 : rp_MF 84 := ⟨rp_gt_of 699 rfl rfl, rp_ini7, rfl, by decide +kernel, ⟨by decide +kernel, by decide +kernel, by decide +kernel⟩, by decide +kernel⟩
set_option maxRecDepth 20000 in
theorem rp_MF85 : rp_MF 85 := ⟨rp_gt_of 703 rfl rfl, rp_ini7, rfl, by decide +kernel, ⟨by decide +kernel, by decide +kernel, by decide +kernel⟩, by decide +kernel⟩
set_option maxRecDepth 20000 in
theorem rp_MF86 : rp_MF 86 := ⟨rp_gt_of 707 rfl rfl, rp_ini7, rfl, by decide +kernel, ⟨by decide +kernel, by decide +kernel, by decide +kernel⟩, by decide +kernel⟩
set_option maxRecDepth 20000 in
theorem rp_MF87 : rp_MF 87 := ⟨rp_gt_of 711 rfl rfl, rp_ini3, rfl, by decide +kernel, ⟨by decide +kernel, by decide +kernel, by decide +kernel⟩, by decide +kernel⟩
set_option maxRecDepth 20000 in
theorem rp_MF88 : rp_MF 88 := ⟨rp_gt_of 715 rfl rfl, rp_ini3, rfl, by decide +kernel, ⟨by decide +kernel, by decide +kernel, by decide +kernel⟩, by decide +kernel⟩
set_option maxRecDepth 20000 in
theorem rp_MF89 : rp_MF 89 := ⟨rp_gt_of 721 rfl rfl, rp_ini3, rfl, by decide +kernel, ⟨by decide +kernel, by decide +kernel, by decide +kernel⟩, by decide +kernel⟩
set_option maxRecDepth 20000 in
theorem rp_MF90 : rp_MF 90 := ⟨rp_gt_of 727 rfl rfl, rp_ini3, rfl, by decide +kernel, ⟨by decide +kernel, by decide +kernel, by decide +kernel⟩, by decide +kernel⟩
set_option maxRecDepth 20000 in
theorem rp_MF91 : rp_MF 91 := ⟨rp_gt_of 731 rfl rfl, rp_ini3, rfl, by decide +kernel, ⟨by decide +kernel, by decide +kernel, by decide +kernel⟩, by decide +kernel⟩
set_option maxRecDepth 20000 in
theorem rp_MF92 : rp_MF 92 := ⟨rp_gt_of 735 rfl rfl, rp_ini3, rfl, by decide +kernel, ⟨by decide +kernel, by decide +kernel, by decide +kernel⟩, by decide +kernel⟩
set_option maxRecDepth 20000 in
theorem rp_MF93 : rp_MF 93 := ⟨rp_gt_of 739 rfl rfl, rp_ini3, rfl, by decide +kernel, ⟨by decide +kernel, by decide +kernel, by decide +kernel⟩, by decide +kernel⟩
set_option maxRecDepth 20000 in
theorem rp_MF94 : rp_MF 94 := ⟨rp_gt_of 743 rfl rfl, rp_ini3, rfl, by decide +kernel, ⟨by decide +kernel, by decide +kernel, by decide +kernel⟩, by decide +kernel⟩
set_option maxRecDepth 20000 in
theorem rp_MF95 : rp_MF 95 := ⟨rp_gt_of 748 rfl rfl, rp_ini3, rfl, by decide +kernel, ⟨by decide +kernel, by decide +kernel, by decide +kernel⟩, by decide +kernel⟩
set_option maxRecDepth 20000 in
theorem rp_MF96 : rp_MF 96 := ⟨rp_gt_of 752 rfl rfl, rp_ini3, rfl, by decide +kernel, ⟨by decide +kernel, by decide +kernel, by decide +kernel⟩, by decide +kernel⟩
set_option maxRecDepth 20000 in
theorem rp_MF97 : rp_MF 97 := ⟨rp_gt_of 756 rfl rfl, rp_ini3, rfl, by decide +kernel, ⟨by decide +kernel, by decide +kernel, by decide +kernel⟩, by decide +kernel⟩
set_option maxRecDepth 20000 in
theorem rp_MF98 : rp_MF 98 := ⟨rp_gt_of 760 rfl rfl, rp_ini3, rfl, by decide +kernel, ⟨by decide +kernel, by decide +kernel, by decide +kernel⟩, by decide +kernel⟩
set_option maxRecDepth 20000 in
theorem rp_MF99 : rp_MF 99 := ⟨rp_gt_of 764 rfl rfl, rp_ini3, rfl, by decide +kernel, ⟨by decide +kernel, by decide +kernel, by decide +kernel⟩, by decide +kernel⟩
set_option maxRecDepth 20000 in
theorem rp_MF100 : rp_MF 100 := ⟨rp_gt_of 768 rfl rfl, rp_ini3, rfl, by decide +kernel, ⟨by decide +kernel, by decide +kernel, by decide +kernel⟩, by decide +kernel⟩
set_option maxRecDepth 20000 in
theorem rp_MF101 : rp_MF 101 := ⟨rp_gt_of 772 rfl rfl, rp_ini3, rfl, by decide +kernel, ⟨by decide +kernel, by decide +kernel, by decide +kernel⟩, by decide +kernel⟩
set_option maxRecDepth 20000 in
theorem rp_MF102 : rp_MF 102 := ⟨rp_gt_of 776 rfl rfl, rp_ini3, rfl, by decide +kernel, ⟨by decide +kernel, by decide +kernel, by decide +kernel⟩, by decide +kernel⟩
set_option maxRecDepth 20000 in
theorem rp_MF103 : rp_MF 103 := ⟨rp_gt_of 780 rfl rfl, rp_ini3, rfl, by decide +kernel, ⟨by decide +kernel, by decide +kernel, by decide +kernel⟩, by decide +kernel⟩
set_option maxRecDepth 20000 in
theorem rp_MF104 : rp_MF 104 := ⟨rp_gt_of 784 rfl rfl, rp_ini3, rfl, by decide +kernel, ⟨by decide +kernel, by decide +kernel, by decide +kernel⟩, by decide +kernel⟩
set_option maxRecDepth 20000 in
theorem rp_MF105 : rp_MF 105 := ⟨rp_gt_of 794 rfl rfl, rp_ini3, rfl, by decide +kernel, ⟨by decide +kernel, by decide +kernel, by decide +kernel⟩, by decide +kernel⟩
set_option maxRecDepth 20000 in
theorem rp_MF106 : rp_MF 106 := ⟨rp_gt_of 798 rfl rfl, rp_ini3, rfl, by decide +kernel, ⟨by decide +kernel, by decide +kernel, by decide +kernel⟩, by decide +kernel⟩
set_option maxRecDepth 20000 in
theorem rp_MF107 : rp_MF 107 := ⟨rp_gt_of 802 rfl rfl, rp_ini3, rfl, by decide +kernel, ⟨by decide +kernel, by decide +kernel, by decide +kernel⟩, by decide +kernel⟩
set_option maxRecDepth 20000 in
theorem rp_MF108 : rp_MF 108 := ⟨rp_gt_of 806 rfl rfl, rp_ini7, rfl, by decide +kernel, ⟨by decide +kernel, by decide +kernel, by decide +kernel⟩, by decide +kernel⟩
set_option maxRecDepth 20000 in
theorem rp_MF109 : rp_MF 109 := ⟨rp_gt_of 812 rfl rfl, rp_ini7, rfl, by decide +kernel, ⟨by decide +kernel, by decide +kernel, by decide +kernel⟩, by decide +kernel⟩
set_option maxRecDepth 20000 in
theorem rp_MF110 : rp_MF 110 := ⟨rp_gt_of 816 rfl rfl, rp_ini4, rfl, by decide +kernel, ⟨by decide +kernel, by decide +kernel, by decide +kernel⟩, by decide +kernel⟩
set_option maxRecDepth 20000 in
theorem rp_MF111 : rp_MF 111 := ⟨rp_gt_of 821 rfl rfl, rp_ini3, rfl, by decide +kernel, ⟨by decide +kernel, by decide +kernel, by decide +kernel⟩, by decide +kernel⟩
set_option maxRecDepth 20000 in
theorem rp_MF112 : rp_MF 112 := ⟨rp_gt_of 825 rfl rfl, rp_ini4, rfl, by decide +kernel, ⟨by decide +kernel, by decide +kernel, by decide +kernel⟩, by decide +kernel⟩
set_option maxRecDepth 20000 in
theorem rp_MF113 : rp_MF 113 := ⟨rp_gt_of 829 rfl rfl, rp_ini5, rfl, by decide +kernel, ⟨by decide +kernel, by decide +kernel, by decide +kernel⟩, by decide +kernel⟩
set_option maxRecDepth 20000 in
theorem rp_MF114 : rp_MF 114 := ⟨rp_gt_of 836 rfl rfl, rp_ini7, rfl, by decide +kernel, ⟨by decide +kernel, by decide +kernel, by decide +kernel⟩, by decide +kernel⟩
set_option maxRecDepth 20000 in
theorem rp_MF115 : rp_MF 115 := ⟨rp_gt_of 840 rfl rfl, rp_ini7, rfl, by decide +kernel, ⟨by decide +kernel, by decide +kernel, by decide +kernel⟩, by decide +kernel⟩
set_option maxRecDepth 20000 in
theorem rp_MF116 : rp_MF 116 := ⟨rp_gt_of 844 rfl rfl, rp_ini7, rfl, by decide +kernel, ⟨by decide +kernel, by decide +kernel, by decide +kernel⟩, by decide +kernel⟩
set_option maxRecDepth 20000 in
theorem rp_MF117 : rp_MF 117 := ⟨rp_gt_of 848 rfl rfl, rp_ini4, rfl, by decide +kernel, ⟨by decide +kernel, by decide +kernel, by decide +kernel⟩, by decide +kernel⟩
set_option maxRecDepth 20000 in
theorem rp_MF118 : rp_MF 118 := ⟨rp_gt_of 852 rfl rfl, rp_ini4, rfl, by decide +kernel, ⟨by decide +kernel, by decide +kernel, by decide +kernel⟩, by decide +kernel⟩
set_option maxRecDepth 20000 in
theorem rp_MF119 : rp_MF 119 := ⟨rp_gt_of 859 rfl rfl, rp_ini7, rfl, by decide +kernel, ⟨by decide +kernel, by decide +kernel, by decide +kernel⟩, by decide +kernel⟩
set_option maxRecDepth 20000 in
theorem rp_MF120 : rp_MF 120 := ⟨rp_gt_of 863 rfl rfl, rp_ini7, rfl, by decide +kernel, ⟨by decide +kernel, by decide +kernel, by decide +kernel⟩, by decide +kernel⟩
set_option maxRecDepth 20000 in
theorem rp_MF121 : rp_MF 121 := ⟨rp_gt_of 867 rfl rfl, rp_ini7, rfl, by decide +kernel, ⟨by decide +kernel, by decide +kernel, by decide +kernel⟩, by decide +kernel⟩
set_option maxRecDepth 20000 in
theorem rp_MF122 : rp_MF 122 := ⟨rp_gt_of 872 rfl rfl, rp_ini6, rfl, by decide +kernel, ⟨by decide +kernel, by decide +kernel, by decide +kernel⟩, by decide +kernel⟩
set_option maxRecDepth 20000 in
theorem rp_MF123 : rp_MF 123 := ⟨rp_gt_of 876 rfl rfl, rp_ini7, rfl, by decide +kernel, ⟨by decide +kernel, by decide +kernel, by decide +kernel⟩, by decide +kernel⟩
set_option maxRecDepth 20000 in
theorem rp_MF124 : rp_MF 124 := ⟨rp_gt_of 880 rfl rfl, rp_ini6, rfl, by decide +kernel, ⟨by decide +kernel, by decide +kernel, by decide +kernel⟩, by decide +kernel⟩
set_option maxRecDepth 20000 in
theorem rp_MF125 : rp_MF 125 := ⟨rp_gt_of 884 rfl rfl, rp_ini7, rfl, by decide +kernel, ⟨by decide +kernel, by decide +kernel, by decide +kernel⟩, by decide +kernel⟩
set_option maxRecDepth 20000 in
theorem rp_MF126 : rp_MF 126 := ⟨rp_gt_of 888 rfl rfl, rp_ini2, rfl, by decide +kernel, ⟨by decide +kernel, by decide +kernel, by decide +kernel⟩, by decide +kernel⟩
set_option maxRecDepth 20000 in
theorem rp_MF127 : rp_MF 127 := ⟨rp_gt_of 892 rfl rfl, rp_ini2, rfl, by decide +kernel, ⟨by decide +kernel, by decide +kernel, by decide +kernel⟩, by decide +kernel⟩
set_option maxRecDepth 20000 in
theorem rp_MF128 : rp_MF 128 := ⟨rp_gt_of 898 rfl rfl, rp_ini2, rfl, by decide +kernel, ⟨by decide +kernel, by decide +kernel, by decide +kernel⟩, by decide +kernel⟩
set_option maxRecDepth 20000 in
theorem rp_MF129 : rp_MF 129 := ⟨rp_gt_of 902 rfl rfl, rp_ini2, rfl, by decide +kernel, ⟨by decide +kernel, by decide +kernel, by decide +kernel⟩, by decide +kernel⟩
set_option maxRecDepth 20000 in
theorem rp_MF130 : rp_MF 130 := ⟨rp_gt_of 905 rfl rfl, rp_ini2, rfl, by decide +kernel, ⟨by decide +kernel, by decide +kernel, by decide +kernel⟩, by decide +kernel⟩
set_option maxRecDepth 20000 in
theorem rp_MF131 : rp_MF 131 := ⟨rp_gt_of 909 rfl rfl, rp_ini2, rfl, by decide +kernel, ⟨by decide +kernel, by decide +kernel, by decide +kernel⟩, by decide +kernel⟩
set_option maxRecDepth 20000 in
theorem rp_MF132 : rp_MF 132 := ⟨rp_gt_of 913 rfl rfl, rp_ini2, rfl, by decide +kernel, ⟨by decide +kernel, by decide +kernel, by decide +kernel⟩, by decide +kernel⟩
set_option maxRecDepth 20000 in
theorem rp_MF133 : rp_MF 133 := ⟨rp_gt_of 920 rfl rfl, rp_ini2, rfl, by decide +kernel, ⟨by decide +kernel, by decide +kernel, by decide +kernel⟩, by decide +kernel⟩
set_option maxRecDepth 20000 in
theorem rp_MF134 : rp_MF 134 := ⟨rp_gt_of 924 rfl rfl, rp_ini2, rfl, by decide +kernel, ⟨by decide +kernel, by decide +kernel, by decide +kernel⟩, by decide +kernel⟩
set_option maxRecDepth 20000 in
theorem rp_MF135 : rp_MF 135 := ⟨rp_gt_of 928 rfl rfl, rp_ini2, rfl, by decide +kernel, ⟨by decide +kernel, by decide +kernel, by decide +kernel⟩, by decide +kernel⟩
set_option maxRecDepth 20000 in
theorem rp_MF136 : rp_MF 136 := ⟨rp_gt_of 932 rfl rfl, rp_ini2, rfl, by decide +kernel, ⟨by decide +kernel, by decide +kernel, by decide +kernel⟩, by decide +kernel⟩
set_option maxRecDepth 20000 in
theorem rp_MF137 : rp_MF 137 := ⟨rp_gt_of 936 rfl rfl, rp_ini2, rfl, by decide +kernel, ⟨by decide +kernel, by decide +kernel, by decide +kernel⟩, by decide +kernel⟩
set_option maxRecDepth 20000 in
theorem rp_MF138 : rp_MF 138 := ⟨rp_gt_of 940 rfl rfl, rp_ini2, rfl, by decide +kernel, ⟨by decide +kernel, by decide +kernel, by decide +kernel⟩, by decide +kernel⟩
set_option maxRecDepth 20000 in
theorem rp_MF139 : rp_MF 139 := ⟨rp_gt_of 945 rfl rfl, rp_ini7, rfl, by decide +kernel, ⟨by decide +kernel, by decide +kernel, by decide +kernel⟩, by decide +kernel⟩
set_option maxRecDepth 20000 in
theorem rp_MF140 : rp_MF 140 := ⟨rp_gt_of 949 rfl rfl, rp_ini2, rfl, by decide +kernel, ⟨by decide +kernel, by decide +kernel, by decide +kernel⟩, by decide +kernel⟩
set_option maxRecDepth 20000 in
theorem rp_MF141 : rp_MF 141 := ⟨rp_gt_of 954 rfl rfl, rp_ini7, rfl, by decide +kernel, ⟨by decide +kernel, by decide +kernel, by decide +kernel⟩, by decide +kernel⟩
set_option maxRecDepth 20000 in
theorem rp_MF142 : rp_MF 142 := ⟨rp_gt_of 958 rfl rfl, rp_ini7, rfl, by decide +kernel, ⟨by decide +kernel, by decide +kernel, by decide +kernel⟩, by decide +kernel⟩
set_option maxRecDepth 20000 in
theorem rp_MF143 : rp_MF 143 := ⟨rp_gt_of 962 rfl rfl, rp_ini0, rfl, by decide +kernel, ⟨by decide +kernel, by decide +kernel, by decide +kernel⟩, by decide +kernel⟩
set_option maxRecDepth 20000 in
theorem rp_MF144 : rp_MF 144 := ⟨rp_gt_of 966 rfl rfl, rp_ini7, rfl, by decide +kernel, ⟨by decide +kernel, by decide +kernel, by decide +kernel⟩, by decide +kernel⟩
set_option maxRecDepth 20000 in
theorem rp_MF145 : rp_MF 145 := ⟨rp_gt_of 970 rfl rfl, rp_ini0, rfl, by decide +kernel, ⟨by decide +kernel, by decide +kernel, by decide +kernel⟩, by decide +kernel⟩
set_option maxRecDepth 20000 in
theorem rp_MF146 : rp_MF 146 := ⟨rp_gt_of 974 rfl rfl, rp_ini5, rfl, by decide +kernel, ⟨by decide +kernel, by decide +kernel, by decide +kernel⟩, by decide +kernel⟩
set_option maxRecDepth 20000 in
theorem rp_MF147 : rp_MF 147 := ⟨rp_gt_of 979 rfl rfl, rp_ini7, rfl, by decide +kernel, ⟨by decide +kernel, by decide +kernel, by decide +kernel⟩, by decide +kernel⟩
set_option maxRecDepth 20000 in
theorem rp_MF148 : rp_MF 148 := ⟨rp_gt_of 984 rfl rfl, rp_ini8, rfl, by decide +kernel, ⟨by decide +kernel, by decide +kernel, by decide +kernel⟩, by decide +kernel⟩
set_option maxRecDepth 20000 in
theorem rp_MF149 : rp_MF 149 := ⟨rp_gt_of 1090 rfl rfl, rp_ini8, rfl, by decide +kernel, ⟨by decide +kernel, by decide +kernel, by decide +kernel⟩, by decide +kernel⟩
set_option maxRecDepth 20000 in
theorem rp_MF150 : rp_MF 150 := ⟨rp_gt_of 1093 rfl rfl, rp_ini8, rfl, by decide +kernel, ⟨by decide +kernel, by decide +kernel, by decide +kernel⟩, by decide +kernel⟩
set_option maxRecDepth 20000 in
theorem rp_MF151 : rp_MF 151 := ⟨rp_gt_of 1096 rfl rfl, rp_ini8, rfl, by decide +kernel, ⟨by decide +kernel, by decide +kernel, by decide +kernel⟩, by decide +kernel⟩
set_option maxRecDepth 20000 in
theorem rp_MF152 : rp_MF 152 := ⟨rp_gt_of 1100 rfl rfl, rp_ini8, rfl, by decide +kernel, ⟨by decide +kernel, by decide +kernel, by decide +kernel⟩, by decide +kernel⟩
set_option maxRecDepth 20000 in
theorem rp_MF153 : rp_MF 153 := ⟨rp_gt_of 1104 rfl rfl, rp_ini8, rfl, by decide +kernel, ⟨by decide +kernel, by decide +kernel, by decide +kernel⟩, by decide +kernel⟩
set_option maxRecDepth 20000 in
theorem rp_MF154 : rp_MF 154 := ⟨rp_gt_of 1108 rfl rfl, rp_ini8, rfl, by decide +kernel, ⟨by decide +kernel, by decide +kernel, by decide +kernel⟩, by decide +kernel⟩
set_option maxRecDepth 20000 in
theorem rp_MF155 : rp_MF 155 := ⟨rp_gt_of 1112 rfl rfl, rp_ini8, rfl, by decide +kernel, ⟨by decide +kernel, by decide +kernel, by decide +kernel⟩, by decide +kernel⟩
set_option maxRecDepth 20000 in
theorem rp_MF156 : rp_MF 156 := ⟨rp_gt_of 1116 rfl rfl, rp_ini8, rfl, by decide +kernel, ⟨by decide +kernel, by decide +kernel, by decide +kernel⟩, by decide +kernel⟩
set_option maxRecDepth 20000 in
theorem rp_MF157 : rp_MF 157 := ⟨rp_gt_of 1120 rfl rfl, rp_ini8, rfl, by decide +kernel, ⟨by decide +kernel, by decide +kernel, by decide +kernel⟩, by decide +kernel⟩
set_option maxRecDepth 20000 in
theorem rp_MF158 : rp_MF 158 := ⟨rp_gt_of 1125 rfl rfl, rp_ini8, rfl, by decide +kernel, ⟨by decide +kernel, by decide +kernel, by decide +kernel⟩, by decide +kernel⟩
set_option maxRecDepth 20000 in
theorem rp_MF159 : rp_MF 159 := ⟨rp_gt_of 1128 rfl rfl, rp_ini8, rfl, by decide +kernel, ⟨by decide +kernel, by decide +kernel, by decide +kernel⟩, by decide +kernel⟩
set_option maxRecDepth 20000 in
theorem rp_MF160 : rp_MF 160 := ⟨rp_gt_of 1132 rfl rfl, rp_ini8, rfl, by decide +kernel, ⟨by decide +kernel, by decide +kernel, by decide +kernel⟩, by decide +kernel⟩
set_option maxRecDepth 20000 in
theorem rp_MF161 : rp_MF 161 := ⟨rp_gt_of 1135 rfl rfl, rp_ini8, rfl, by decide +kernel, ⟨by decide +kernel, by decide +kernel, by decide +kernel⟩, by decide +kernel⟩
set_option maxRecDepth 20000 in
theorem rp_MF162 : rp_MF 162 := ⟨rp_gt_of 1138 rfl rfl, rp_ini8, rfl, by decide +kernel, ⟨by decide +kernel, by decide +kernel, by decide +kernel⟩, by decide +kernel⟩
set_option maxRecDepth 20000 in
theorem rp_MF163 : rp_MF 163 := ⟨rp_gt_of 1142 rfl rfl, rp_ini8, rfl, by decide +kernel, ⟨by decide +kernel, by decide +kernel, by decide +kernel⟩, by decide +kernel⟩
set_option maxRecDepth 20000 in
theorem rp_MF164 : rp_MF 164 := ⟨rp_gt_of 1146 rfl rfl, rp_ini8, rfl, by decide +kernel, ⟨by decide +kernel, by decide +kernel, by decide +kernel⟩, by decide +kernel⟩
set_option maxRecDepth 20000 in
theorem rp_MF165 : rp_MF 165 := ⟨rp_gt_of 1150 rfl rfl, rp_ini8, rfl, by decide +kernel, ⟨by decide +kernel, by decide +kernel, by decide +kernel⟩, by decide +kernel⟩
set_option maxRecDepth 20000 in
theorem rp_MF166 : rp_MF 166 := ⟨rp_gt_of 1154 rfl rfl, rp_ini8, rfl, by decide +kernel, ⟨by decide +kernel, by decide +kernel, by decide +kernel⟩, by decide +kernel⟩
set_option maxRecDepth 20000 in
theorem rp_MF167 : rp_MF 167 := ⟨rp_gt_of 1158 rfl rfl, rp_ini8, rfl, by decide +kernel, ⟨by decide +kernel, by decide +kernel, by decide +kernel⟩, by decide +kernel⟩
set_option maxRecDepth 20000 in
theorem rp_MF168 : rp_MF 168 := ⟨rp_gt_of 1162 rfl rfl, rp_ini8, rfl, by decide +kernel, ⟨by decide +kernel, by decide +kernel, by decide +kernel⟩, by decide +kernel⟩
set_option maxRecDepth 20000 in
theorem rp_MF169 : rp_MF 169 := ⟨rp_gt_of 1166 rfl rfl, rp_ini8, rfl, by decide +kernel, ⟨by decide +kernel, by decide +kernel, by decide +kernel⟩, by decide +kernel⟩
set_option maxRecDepth 20000 in
theorem rp_MF170 : rp_MF 170 := ⟨rp_gt_of 1170 rfl rfl, rp_ini8, rfl, by decide +kernel, ⟨by decide +kernel, by decide +kernel, by decide +kernel⟩, by decide +kernel⟩
set_option maxRecDepth 20000 in
theorem rp_MF171 : rp_MF 171 := ⟨rp_gt_of 1174 rfl rfl, rp_ini8, rfl, by decide +kernel, ⟨by decide +kernel, by decide +kernel, by decide +kernel⟩, by decide +kernel⟩
set_option maxRecDepth 20000 in
theorem rp_MF172 : rp_MF 172 := ⟨rp_gt_of 1178 rfl rfl, rp_ini8, rfl, by decide +kernel, ⟨by decide +kernel, by decide +kernel, by decide +kernel⟩, by decide +kernel⟩
set_option maxRecDepth 20000 in
theorem rp_MF173 : rp_MF 173 := ⟨rp_gt_of 1181 rfl rfl, rp_ini8, rfl, by decide +kernel, ⟨by decide +kernel, by decide +kernel, by decide +kernel⟩, by decide +kernel⟩
set_option maxRecDepth 20000 in
theorem rp_MF174 : rp_MF 174 := ⟨rp_gt_of 1185 rfl rfl, rp_ini8, rfl, by decide +kernel, ⟨by decide +kernel, by decide +kernel, by decide +kernel⟩, by decide +kernel⟩
set_option maxRecDepth 20000 in
theorem rp_MF175 : rp_MF 175 := ⟨rp_gt_of 1189 rfl rfl, rp_ini8, rfl, by decide +kernel, ⟨by decide +kernel, by decide +kernel, by decide +kernel⟩, by decide +kernel⟩
set_option maxRecDepth 20000 in
theorem rp_MF176 : rp_MF 176 := ⟨rp_gt_of 1193 rfl rfl, rp_ini8, rfl, by decide +kernel, ⟨by decide +kernel, by decide +kernel, by decide +kernel⟩, by decide +kernel⟩
set_option maxRecDepth 20000 in
theorem rp_MF177 : rp_MF 177 := ⟨rp_gt_of 1197 rfl rfl, rp_ini8, rfl, by decide +kernel, ⟨by decide +kernel, by decide +kernel, by decide +kernel⟩, by decide +kernel⟩
set_option maxRecDepth 20000 in
theorem rp_MF178 : rp_MF 178 := ⟨rp_gt_of 1201 rfl rfl, rp_ini8, rfl, by decide +kernel, ⟨by decide +kernel, by decide +kernel, by decide +kernel⟩, by decide +kernel⟩
set_option maxRecDepth 20000 in
theorem rp_MF179 : rp_MF 179 := ⟨rp_gt_of 1204 rfl rfl, rp_ini8, rfl, by decide +kernel, ⟨by decide +kernel, by decide +kernel, by decide +kernel⟩, by decide +kernel⟩
set_option maxRecDepth 20000 in
theorem rp_MF180 : rp_MF 180 := ⟨rp_gt_of 1208 rfl rfl, rp_ini8, rfl, by decide +kernel, ⟨by decide +kernel, by decide +kernel, by decide +kernel⟩, by decide +kernel⟩
set_option maxRecDepth 20000 in
theorem rp_MF181 : rp_MF 181 := ⟨rp_gt_of 1212 rfl rfl, rp_ini8, rfl, by decide +kernel, ⟨by decide +kernel, by decide +kernel, by decide +kernel⟩, by decide +kernel⟩
set_option maxRecDepth 20000 in
theorem rp_MF182 : rp_MF 182 := ⟨rp_gt_of 1216 rfl rfl, rp_ini8, rfl, by decide +kernel, ⟨by decide +kernel, by decide +kernel, by decide +kernel⟩, by decide +kernel⟩
set_option maxRecDepth 20000 in
theorem rp_MF183 : rp_MF 183 := ⟨rp_gt_of 1220 rfl rfl, rp_ini8, rfl, by decide +kernel, ⟨by decide +kernel, by decide +kernel, by decide +kernel⟩, by decide +kernel⟩
set_option maxRecDepth 20000 in
theorem rp_MF184 : rp_MF 184 := ⟨rp_gt_of 1224 rfl rfl, rp_ini8, rfl, by decide +kernel, ⟨by decide +kernel, by decide +kernel, by decide +kernel⟩, by decide +kernel⟩
set_option maxRecDepth 20000 in
theorem rp_MF185 : rp_MF 185 := ⟨rp_gt_of 1228 rfl rfl, rp_ini8, rfl, by decide +kernel, ⟨by decide +kernel, by decide +kernel, by decide +kernel⟩, by decide +kernel⟩
set_option maxRecDepth 20000 in
theorem rp_MF186 : rp_MF 186 := ⟨rp_gt_of 1232 rfl rfl, rp_ini8, rfl, by decide +kernel, ⟨by decide +kernel, by decide +kernel, by decide +kernel⟩, by decide +kernel⟩
set_option maxRecDepth 20000 in
theorem rp_MF187 : rp_MF 187 := ⟨rp_gt_of 1236 rfl rfl, rp_ini8, rfl, by decide +kernel, ⟨by decide +kernel, by decide +kernel, by decide +kernel⟩, by decide +kernel⟩
set_option maxRecDepth 20000 in
theorem rp_MF188 : rp_MF 188 := ⟨rp_gt_of 1240 rfl rfl, rp_ini8, rfl, by decide +kernel, ⟨by decide +kernel, by decide +kernel, by decide +kernel⟩, by decide +kernel⟩
set_option maxRecDepth 20000 in
theorem rp_MF189 : rp_MF 189 := ⟨rp_gt_of 1244 rfl rfl, rp_ini8, rfl, by decide +kernel, ⟨by decide +kernel, by decide +kernel, by decide +kernel⟩, by decide +kernel⟩
set_option maxRecDepth 20000 in
theorem rp_MF190 : rp_MF 190 := ⟨rp_gt_of 1248 rfl rfl, rp_ini8, rfl, by decide +kernel, ⟨by decide +kernel, by decide +kernel, by decide +kernel⟩, by decide +kernel⟩
set_option maxRecDepth 20000 in
theorem rp_MF191 : rp_MF 191 := ⟨rp_gt_of 1252 rfl rfl, rp_ini8, rfl, by decide +kernel, ⟨by decide +kernel, by decide +kernel, by decide +kernel⟩, by decide +kernel⟩
set_option maxRecDepth 20000 in
theorem rp_MF192 : rp_MF 192 := ⟨rp_gt_of 1256 rfl rfl, rp_ini8, rfl, by decide +kernel, ⟨by decide +kernel, by decide +kernel, by decide +kernel⟩, by decide +kernel⟩
set_option maxRecDepth 20000 in
theorem rp_MF193 : rp_MF 193 := ⟨rp_gt_of 1260 rfl rfl, rp_ini8, rfl, by decide +kernel, ⟨by decide +kernel, by decide +kernel, by decide +kernel⟩, by decide +kernel⟩
set_option maxRecDepth 20000 in
theorem rp_MF194 : rp_MF 194 := ⟨rp_gt_of 1264 rfl rfl, rp_ini8, rfl, by decide +kernel, ⟨by decide +kernel, by decide +kernel, by decide +kernel⟩, by decide +kernel⟩
set_option maxRecDepth 20000 in
theorem rp_MF195 : rp_MF 195 := ⟨rp_gt_of 1268 rfl rfl, rp_ini8, rfl, by decide +kernel, ⟨by decide +kernel, by decide +kernel, by decide +kernel⟩, by decide +kernel⟩
set_option maxRecDepth 20000 in
theorem rp_MF196 : rp_MF 196 := ⟨rp_gt_of 1272 rfl rfl, rp_ini8, rfl, by decide +kernel, ⟨by decide +kernel, by decide +kernel, by decide +kernel⟩, by decide +kernel⟩
set_option maxRecDepth 20000 in
theorem rp_MF197 : rp_MF 197 := ⟨rp_gt_of 1276 rfl rfl, rp_ini8, rfl, by decide +kernel, ⟨by decide +kernel, by decide +kernel, by decide +kernel⟩, by decide +kernel⟩
set_option maxRecDepth 20000 in
theorem rp_MF198 : rp_MF 198 := ⟨rp_gt_of 1280 rfl rfl, rp_ini8, rfl, by decide +kernel, ⟨by decide +kernel, by decide +kernel, by decide +kernel⟩, by decide +kernel⟩
set_option maxRecDepth 20000 in
theorem rp_MF199 : rp_MF 199 := ⟨rp_gt_of 1284 rfl rfl, rp_ini8, rfl, by decide +kernel, ⟨by decide +kernel, by decide +kernel, by decide +kernel⟩, by decide +kernel⟩
set_option maxRecDepth 20000 in
theorem rp_MF200 : rp_MF 200 := ⟨rp_gt_of 1288 rfl rfl, rp_ini8, rfl, by decide +kernel, ⟨by decide +kernel, by decide +kernel, by decide +kernel⟩, by decide +kernel⟩
set_option maxRecDepth 20000 in
theorem rp_MF201 : rp_MF 201 := ⟨rp_gt_of 1292 rfl rfl, rp_ini8, rfl, by decide +kernel, ⟨by decide +kernel, by decide +kernel, by decide +kernel⟩, by decide +kernel⟩
set_option maxRecDepth 20000 in
theorem rp_MF202 : rp_MF 202 := ⟨rp_gt_of 1296 rfl rfl, rp_ini8, rfl, by decide +kernel, ⟨by decide +kernel, by decide +kernel, by decide +kernel⟩, by decide +kernel⟩
set_option maxRecDepth 20000 in
theorem rp_MF203 : rp_MF 203 := ⟨rp_gt_of 1300 rfl rfl, rp_ini8, rfl, by decide +kernel, ⟨by decide +kernel, by decide +kernel, by decide +kernel⟩, by decide +kernel⟩
set_option maxRecDepth 20000 in
theorem rp_MF204 : rp_MF 204 := ⟨rp_gt_of 1304 rfl rfl, rp_ini8, rfl, by decide +kernel, ⟨by decide +kernel, by decide +kernel, by decide +kernel⟩, by decide +kernel⟩
set_option maxRecDepth 20000 in
theorem rp_MF205 : rp_MF 205 := ⟨rp_gt_of 1308 rfl rfl, rp_ini8, rfl, by decide +kernel, ⟨by decide +kernel, by decide +kernel, by decide +kernel⟩, by decide +kernel⟩
set_option maxRecDepth 20000 in
theorem rp_MF206 : rp_MF 206 := ⟨rp_gt_of 1312 rfl rfl, rp_ini8, rfl, by decide +kernel, ⟨by decide +kernel, by decide +kernel, by decide +kernel⟩, by decide +kernel⟩
set_option maxRecDepth 20000 in
theorem rp_MF207 : rp_MF 207 := ⟨rp_gt_of 1316 rfl rfl, rp_ini8, rfl, by decide +kernel, ⟨by decide +kernel, by decide +kernel, by decide +kernel⟩, by decide +kernel⟩
set_option maxRecDepth 20000 in
theorem rp_MF208 : rp_MF 208 := ⟨rp_gt_of 1320 rfl rfl, rp_ini8, rfl, by decide +kernel, ⟨by decide +kernel, by decide +kernel, by decide +kernel⟩, by decide +kernel⟩
set_option maxRecDepth 20000 in
theorem rp_MF209 : rp_MF 209 := ⟨rp_gt_of 1324 rfl rfl, rp_ini8, rfl, by decide +kernel, ⟨by decide +kernel, by decide +kernel, by decide +kernel⟩, by decide +kernel⟩
set_option maxRecDepth 20000 in
theorem rp_MF210 : rp_MF 210 := ⟨rp_gt_of 1328 rfl rfl, rp_ini8, rfl, by decide +kernel, ⟨by decide +kernel, by decide +kernel, by decide +kernel⟩, by decide +kernel⟩
set_option maxRecDepth 20000 in
theorem rp_MF211 : rp_MF 211 := ⟨rp_gt_of 1332 rfl rfl, rp_ini8, rfl, by decide +kernel, ⟨by decide +kernel, by decide +kernel, by decide +kernel⟩, by decide +kernel⟩
set_option maxRecDepth 20000 in
theorem rp_MF212 : rp_MF 212 := ⟨rp_gt_of 1336 rfl rfl, rp_ini8, rfl, by decide +kernel, ⟨by decide +kernel, by decide +kernel, by decide +kernel⟩, by decide +kernel⟩
set_option maxRecDepth 20000 in
theorem rp_MF213 : rp_MF 213 := ⟨rp_gt_of 1341 rfl rfl, rp_ini8, rfl, by decide +kernel, ⟨by decide +kernel, by decide +kernel, by decide +kernel⟩, by decide +kernel⟩
set_option maxRecDepth 20000 in
theorem rp_MF214 : rp_MF 214 := ⟨rp_gt_of 1345 rfl rfl, rp_ini8, rfl, by decide +kernel, ⟨by decide +kernel, by decide +kernel, by decide +kernel⟩, by decide +kernel⟩
set_option maxRecDepth 20000 in
theorem rp_MF215 : rp_MF 215 := ⟨rp_gt_of 1349 rfl rfl, rp_ini8, rfl, by decide +kernel, ⟨by decide +kernel, by decide +kernel, by decide +kernel⟩, by decide +kernel⟩
set_option maxRecDepth 20000 in
theorem rp_MF216 : rp_MF 216 := ⟨rp_gt_of 1353 rfl rfl, rp_ini8, rfl, by decide +kernel, ⟨by decide +kernel, by decide +kernel, by decide +kernel⟩, by decide +kernel⟩
set_option maxRecDepth 20000 in
theorem rp_MF217 : rp_MF 217 := ⟨rp_gt_of 1357 rfl rfl, rp_ini8, rfl, by decide +kernel, ⟨by decide +kernel, by decide +kernel, by decide +kernel⟩, by decide +kernel⟩
set_option maxRecDepth 20000 in
theorem rp_MF218 : rp_MF 218 := ⟨rp_gt_of 1361 rfl rfl, rp_ini8, rfl, by decide +kernel, ⟨by decide +kernel, by decide +kernel, by decide +kernel⟩, by decide +kernel⟩
set_option maxRecDepth 20000 in
theorem rp_MF219 : rp_MF 219 := ⟨rp_gt_of 1365 rfl rfl, rp_ini8, rfl, by decide +kernel, ⟨by decide +kernel, by decide +kernel, by decide +kernel⟩, by decide +kernel⟩
set_option maxRecDepth 20000 in
theorem rp_MF220 : rp_MF 220 := ⟨rp_gt_of 1369 rfl rfl, rp_ini8, rfl, by decide +kernel, ⟨by decide +kernel, by decide +kernel, by decide +kernel⟩, by decide +kernel⟩
set_option maxRecDepth 20000 in
theorem rp_MF221 : rp_MF 221 := ⟨rp_gt_of 1373 rfl rfl, rp_ini8, rfl, by decide +kernel, ⟨by decide +kernel, by decide +kernel, by decide +kernel⟩, by decide +kernel⟩
set_option maxRecDepth 20000 in
theorem rp_MF222 : rp_MF 222 := ⟨rp_gt_of 1377 rfl rfl, rp_ini8, rfl, by decide +kernel, ⟨by decide +kernel, by decide +kernel, by decide +kernel⟩, by decide +kernel⟩
set_option maxRecDepth 20000 in
theorem rp_MF223 : rp_MF 223 := ⟨rp_gt_of 1381 rfl rfl, rp_ini8, rfl, by decide +kernel, ⟨by decide +kernel, by decide +kernel, by decide +kernel⟩, by decide +kernel⟩
set_option maxRecDepth 20000 in
theorem rp_MF224 : rp_MF 224 := ⟨rp_gt_of 1385 rfl rfl, rp_ini8, rfl, by decide +kernel, ⟨by decide +kernel, by decide +kernel, by decide +kernel⟩, by decide +kernel⟩
set_option maxRecDepth 20000 in
theorem rp_MF225 : rp_MF 225 := ⟨rp_gt_of 1389 rfl rfl, rp_ini8, rfl, by decide +kernel, ⟨by decide +kernel, by decide +kernel, by decide +kernel⟩, by decide +kernel⟩
set_option maxRecDepth 20000 in
theorem rp_MF226 : rp_MF 226 := ⟨rp_gt_of 1393 rfl rfl, rp_ini8, rfl, by decide +kernel, ⟨by decide +kernel, by decide +kernel, by decide +kernel⟩, by decide +kernel⟩
set_option maxRecDepth 20000 in
theorem rp_MF227 : rp_MF 227 := ⟨rp_gt_of 1397 rfl rfl, rp_ini8, rfl, by decide +kernel, ⟨by decide +kernel, by decide +kernel, by decide +kernel⟩, by decide +kernel⟩
set_option maxRecDepth 20000 in
theorem rp_MF228 : rp_MF 228 := ⟨rp_gt_of 1401 rfl rfl, rp_ini8, rfl, by decide +kernel, ⟨by decide +kernel, by decide +kernel, by decide +kernel⟩, by decide +kernel⟩
set_option maxRecDepth 20000 in
theorem rp_MF229 : rp_MF 229 := ⟨rp_gt_of 1405 rfl rfl, rp_ini8, rfl, by decide +kernel, ⟨by decide +kernel, by decide +kernel, by decide +kernel⟩, by decide +kernel⟩
set_option maxRecDepth 100000 in
theorem rp_MFs : ∀ c, c < 230 → rp_MF c := by
  intro c hc
  have e : List.range 230 = [0, 1, 2, 3, 4, 5, 6, 7, 8, 9, 10, 11, 12, 13, 14, 15, 16, 17, 18, 19, 20, 21, 22, 23, 24, 25, 26, 27, 28, 29, 30, 31, 32, 33, 34, 35, 36, 37, 38, 39, 40, 41, 42, 43, 44, 45, 46, 47, 48, 49, 50, 51, 52, 53, 54, 55, 56, 57, 58, 59, 60, 61, 62, 63, 64, 65, 66, 67, 68, 69, 70, 71, 72, 73, 74, 75, 76, 77, 78, 79, 80, 81, 82, 83, 84, 85, 86, 87, 88, 89, 90, 91, 92, 93, 94, 95, 96, 97, 98, 99, 100, 101, 102, 103, 104, 105, 106, 107, 108, 109, 110, 111, 112, 113, 114, 115, 116, 117, 118, 119, 120, 121, 122, 123, 124, 125, 126, 127, 128, 129, 130, 131, 132, 133, 134, 135, 136, 137, 138, 139, 140, 141, 142, 143, 144, 145, 146, 147, 148, 149, 150, 151, 152, 153, 154, 155, 156, 157, 158, 159, 160, 161, 162, 163, 164, 165, 166, 167, 168, 169, 170, 171, 172, 173, 174, 175, 176, 177, 178, 179, 180, 181, 182, 183, 184, 185, 186, 187, 188, 189, 190, 191, 192, 193, 194, 195, 196, 197, 198, 199, 200, 201, 202, 203, 204, 205, 206, 207, 208, 209, 210, 211, 212, 213, 214, 215, 216, 217, 218, 219, 220, 221, 222, 223, 224, 225, 226, 227, 228, 229] := by decide +kernel
  have h : ∀ c ∈ [0, 1, 2, 3, 4, 5, 6, 7, 8, 9, 10, 11, 12, 13, 14, 15, 16, 17, 18, 19, 20, 21, 22, 23, 24, 25, 26, 27, 28, 29, 30, 31, 32, 33, 34, 35, 36, 37, 38, 39, 40, 41, 42, 43, 44, 45, 46, 47, 48, 49, 50, 51, 52, 53, 54, 55, 56, 57, 58, 59, 60, 61, 62, 63, 64, 65, 66, 67, 68, 69, 70, 71, 72, 73, 74, 75, 76, 77, 78, 79, 80, 81, 82, 83, 84, 85, 86, 87, 88, 89, 90, 91, 92, 93, 94, 95, 96, 97, 98, 99, 100, 101, 102, 103, 104, 105, 106, 107, 108, 109, 110, 111, 112, 113, 114, 115, 116, 117, 118, 119, 120, 121, 122, 123, 124, 125, 126, 127, 128, 129, 130, 131, 132, 133, 134, 135, 136, 137, 138, 139, 140, 141, 142, 143, 144, 145, 146, 147, 148, 149, 150, 151, 152, 153, 154, 155, 156, 157, 158, 159, 160, 161, 162, 163, 164, 165, 166, 167, 168, 169, 170, 171, 172, 173, 174, 175, 176, 177, 178, 179, 180, 181, 182, 183, 184, 185, 186, 187, 188, 189, 190, 191, 192, 193, 194, 195, 196, 197, 198, 199, 200, 201, 202, 203, 204, 205, 206, 207, 208, 209, 210, 211, 212, 213, 214, 215, 216, 217, 218, 219, 220, 221, 222, 223, 224, 225, 226, 227, 228, 229], rp_MF c := List.forall_mem_cons.mpr ⟨rp_MF0, List.forall_mem_cons.mpr ⟨rp_MF1, List.forall_mem_cons.mpr ⟨rp_MF2, List.forall_mem_cons.mpr ⟨rp_MF3, List.forall_mem_cons.mpr ⟨rp_MF4, List.forall_mem_cons.mpr ⟨rp_MF5, List.forall_mem_cons.mpr ⟨rp_MF6, List.forall_mem_cons.mpr ⟨rp_MF7, List.forall_mem_cons.mpr ⟨rp_MF8, List.forall_mem_cons.mpr ⟨rp_MF9, List.forall_mem_cons.mpr ⟨rp_MF10, List.forall_mem_cons.mpr ⟨rp_MF11, List.forall_mem_cons.mpr ⟨rp_MF12, List.forall_mem_cons.mpr ⟨rp_MF13, List.forall_mem_cons.mpr ⟨rp_MF14, List.forall_mem_cons.mpr ⟨rp_MF15, List.forall_mem_cons.mpr ⟨rp_MF16, List.forall_mem_cons.mpr ⟨rp_MF17, List.forall_mem_cons.mpr ⟨rp_MF18, List.forall_mem_cons.mpr ⟨rp_MF19, List.forall_mem_cons.mpr ⟨rp_MF20, List.forall_mem_cons.mpr ⟨rp_MF21, List.forall_mem_cons.mpr ⟨rp_MF22, List.forall_mem_cons.mpr ⟨rp_MF23, List.forall_mem_cons.mpr ⟨rp_MF24, List.forall_mem_cons.mpr ⟨rp_MF25, List.forall_mem_cons.mpr ⟨rp_MF26, List.forall_mem_cons.mpr ⟨rp_MF27, List.forall_mem_cons.mpr ⟨rp_MF28, List.forall_mem_cons.mpr ⟨rp_MF29, List.forall_mem_cons.mpr ⟨rp_MF30, List.forall_mem_cons.mpr ⟨rp_MF31, List.forall_mem_cons.mpr ⟨rp_MF32, List.forall_mem_cons.mpr ⟨rp_MF33, List.forall_mem_cons.mpr ⟨rp_MF34, List.forall_mem_cons.mpr ⟨rp_MF35, List.forall_mem_cons.mpr ⟨rp_MF36, List.forall_mem_cons.mpr ⟨rp_MF37, List.forall_mem_cons.mpr ⟨rp_MF38, List.forall_mem_cons.mpr ⟨rp_MF39, List.forall_mem_cons.mpr ⟨rp_MF40, List.forall_mem_cons.mpr ⟨rp_MF41, List.forall_mem_cons.mpr ⟨rp_MF42, List.forall_mem_cons.mpr ⟨rp_MF43, List.forall_mem_cons.mpr ⟨rp_MF44, List.forall_mem_cons.mpr ⟨rp_MF45, List.forall_mem_cons.mpr ⟨rp_MF46, List.forall_mem_cons.mpr ⟨rp_MF47, List.forall_mem_cons.mpr ⟨rp_MF48, List.forall_mem_cons.mpr ⟨rp_MF49, List.forall_mem_cons.mpr ⟨rp_MF50, List.forall_mem_cons.mpr ⟨rp_MF51, List.forall_mem_cons.mpr ⟨rp_MF52, List.forall_mem_cons.mpr ⟨rp_MF53, List.forall_mem_cons.mpr ⟨rp_MF54, List.forall_mem_cons.mpr ⟨rp_MF55, List.forall_mem_cons.mpr ⟨rp_MF56, List.forall_mem_cons.mpr ⟨rp_MF57, List.forall_mem_cons.mpr ⟨rp_MF58, List.forall_mem_cons.mpr ⟨rp_MF59, List.forall_mem_cons.mpr ⟨rp_MF60, List.forall_mem_cons.mpr ⟨rp_MF61, List.forall_mem_cons.mpr ⟨rp_MF62, List.forall_mem_cons.mpr ⟨rp_MF63, List.forall_mem_cons.mpr ⟨rp_MF64, List.forall_mem_cons.mpr ⟨rp_MF65, List.forall_mem_cons.mpr ⟨rp_MF66, List.forall_mem_cons.mpr ⟨rp_MF67, List.forall_mem_cons.mpr ⟨rp_MF68, List.forall_mem_cons.mpr ⟨rp_MF69, List.forall_mem_cons.mpr ⟨rp_MF70, List.forall_mem_cons.mpr ⟨rp_MF71, List.forall_mem_cons.mpr ⟨rp_MF72, List.forall_mem_cons.mpr ⟨rp_MF73, List.forall_mem_cons.mpr ⟨rp_MF74, List.forall_mem_cons.mpr ⟨rp_MF75, List.forall_mem_cons.mpr ⟨rp_MF76, List.forall_mem_cons.mpr ⟨rp_MF77, List.forall_mem_cons.mpr ⟨rp_MF78, List.forall_mem_cons.mpr ⟨rp_MF79, List.forall_mem_cons.mpr ⟨rp_MF80, List.forall_mem_cons.mpr ⟨rp_MF81, List.forall_mem_cons.mpr ⟨rp_MF82, List.forall_mem_cons.mpr ⟨rp_MF83, List.forall_mem_cons.mpr ⟨rp_MF84, List.forall_mem_cons.mpr ⟨rp_MF85, List.forall_mem_cons.mpr ⟨rp_MF86, List.forall_mem_cons.mpr ⟨rp_MF87, List.forall_mem_cons.mpr ⟨rp_MF88, List.forall_mem_cons.mpr ⟨rp_MF89, List.forall_mem_cons.mpr ⟨rp_MF90, List.forall_mem_cons.mpr ⟨rp_MF91, List.forall_mem_cons.mpr ⟨rp_MF92, List.forall_mem_cons.mpr ⟨rp_MF93, List.forall_mem_cons.mpr ⟨rp_MF94, List.forall_mem_cons.mpr ⟨rp_MF95, List.forall_mem_cons.mpr ⟨rp_MF96, List.forall_mem_cons.mpr ⟨rp_MF97, List.forall_mem_cons.mpr ⟨rp_MF98, List.forall_mem_cons.mpr ⟨rp_MF99, List.forall_mem_cons.mpr ⟨rp_MF100, List.forall_mem_cons.mpr ⟨rp_MF101, List.forall_mem_cons.mpr ⟨rp_MF102, List.forall_mem_cons.mpr ⟨rp_MF103, List.forall_mem_cons.mpr ⟨rp_MF104, List.forall_mem_cons.mpr ⟨rp_MF105, List.forall_mem_cons.mpr ⟨rp_MF106, List.forall_mem_cons.mpr ⟨rp_MF107, List.forall_mem_cons.mpr ⟨rp_MF108, List.forall_mem_cons.mpr ⟨rp_MF109, List.forall_mem_cons.mpr ⟨rp_MF110, List.forall_mem_cons.mpr ⟨rp_MF111, List.forall_mem_cons.mpr ⟨rp_MF112, List.forall_mem_cons.mpr ⟨rp_MF113, List.forall_mem_cons.mpr ⟨rp_MF114, List.forall_mem_cons.mpr ⟨rp_MF115, List.forall_mem_cons.mpr ⟨rp_MF116, List.forall_mem_cons.mpr ⟨rp_MF117, List.forall_mem_cons.mpr ⟨rp_MF118, List.forall_mem_cons.mpr ⟨rp_MF119, List.forall_mem_cons.mpr ⟨rp_MF120, List.forall_mem_cons.mpr ⟨rp_MF121, List.forall_mem_cons.mpr ⟨rp_MF122, List.forall_mem_cons.mpr ⟨rp_MF123, List.forall_mem_cons.mpr ⟨rp_MF124, List.forall_mem_cons.mpr ⟨rp_MF125, List.forall_mem_cons.mpr ⟨rp_MF126, List.forall_mem_cons.mpr ⟨rp_MF127, List.forall_mem_cons.mpr ⟨rp_MF128, List.forall_mem_cons.mpr ⟨rp_MF129, List.forall_mem_cons.mpr ⟨rp_MF130, List.forall_mem_cons.mpr ⟨rp_MF131, List.forall_mem_cons.mpr ⟨rp_MF132, List.forall_mem_cons.mpr ⟨rp_MF133, List.forall_mem_cons.mpr ⟨rp_MF134, List.forall_mem_cons.mpr ⟨rp_MF135, List.forall_mem_cons.mpr ⟨rp_MF136, List.forall_mem_cons.mpr ⟨rp_MF137, List.forall_mem_cons.mpr ⟨rp_MF138, List.forall_mem_cons.mpr ⟨rp_MF139, List.forall_mem_cons.mpr ⟨rp_MF140, List.forall_mem_cons.mpr ⟨rp_MF141, List.forall_mem_cons.mpr ⟨rp_MF142, List.forall_mem_cons.mpr ⟨rp_MF143, List.forall_mem_cons.mpr ⟨rp_MF144, List.forall_mem_cons.mpr ⟨rp_MF145, List.forall_mem_cons.mpr ⟨rp_MF146, List.forall_mem_cons.mpr ⟨rp_MF147, List.forall_mem_cons.mpr ⟨rp_MF148, List.forall_mem_cons.mpr ⟨rp_MF149, List.forall_mem_cons.mpr ⟨rp_MF150, List.forall_mem_cons.mpr ⟨rp_MF151, List.forall_mem_cons.mpr ⟨rp_MF152, List.forall_mem_cons.mpr ⟨rp_MF153, List.forall_mem_cons.mpr ⟨rp_MF154, List.forall_mem_cons.mpr ⟨rp_MF155, List.forall_mem_cons.mpr ⟨rp_MF156, List.forall_mem_cons.mpr ⟨rp_MF157, List.forall_mem_cons.mpr ⟨rp_MF158, List.forall_mem_cons.mpr ⟨rp_MF159, List.forall_mem_cons.mpr ⟨rp_MF160, List.forall_mem_cons.mpr ⟨rp_MF161, List.forall_mem_cons.mpr ⟨rp_MF162, List.forall_mem_cons.mpr ⟨rp_MF163, List.forall_mem_cons.mpr ⟨rp_MF164, List.forall_mem_cons.mpr ⟨rp_MF165, List.forall_mem_cons.mpr ⟨rp_MF166, List.forall_mem_cons.mpr ⟨rp_MF167, List.forall_mem_cons.mpr ⟨rp_MF168, List.forall_mem_cons.mpr ⟨rp_MF169, List.forall_mem_cons.mpr ⟨rp_MF170, List.forall_mem_cons.mpr ⟨rp_MF171, List.forall_mem_cons.mpr ⟨rp_MF172, List.forall_mem_cons.mpr ⟨rp_MF173, List.forall_mem_cons.mpr ⟨rp_MF174, List.forall_mem_cons.mpr ⟨rp_MF175, List.forall_mem_cons.mpr ⟨rp_MF176, List.forall_mem_cons.mpr ⟨rp_MF177, List.forall_mem_cons.mpr ⟨rp_MF178, List.forall_mem_cons.mpr ⟨rp_MF179, List.forall_mem_cons.mpr ⟨rp_MF180, List.forall_mem_cons.mpr ⟨rp_MF181, List.forall_mem_cons.mpr ⟨rp_MF182, List.forall_mem_cons.mpr ⟨rp_MF183, List.forall_mem_cons.mpr ⟨rp_MF184, List.forall_mem_cons.mpr ⟨rp_MF185, List.forall_mem_cons.mpr ⟨rp_MF186, List.forall_mem_cons.mpr ⟨rp_MF187, List.forall_mem_cons.mpr ⟨rp_MF188, List.forall_mem_cons.mpr ⟨rp_MF189, List.forall_mem_cons.mpr ⟨rp_MF190, List.forall_mem_cons.mpr ⟨rp_MF191, List.forall_mem_cons.mpr ⟨rp_MF192, List.forall_mem_cons.mpr ⟨rp_MF193, List.forall_mem_cons.mpr ⟨rp_MF194, List.forall_mem_cons.mpr ⟨rp_MF195, List.forall_mem_cons.mpr ⟨rp_MF196, List.forall_mem_cons.mpr ⟨rp_MF197, List.forall_mem_cons.mpr ⟨rp_MF198, List.forall_mem_cons.mpr ⟨rp_MF199, List.forall_mem_cons.mpr ⟨rp_MF200, List.forall_mem_cons.mpr ⟨rp_MF201, List.forall_mem_cons.mpr ⟨rp_MF202, List.forall_mem_cons.mpr ⟨rp_MF203, List.forall_mem_cons.mpr ⟨rp_MF204, List.forall_mem_cons.mpr ⟨rp_MF205, List.forall_mem_cons.mpr ⟨rp_MF206, List.forall_mem_cons.mpr ⟨rp_MF207, List.forall_mem_cons.mpr ⟨rp_MF208, List.forall_mem_cons.mpr ⟨rp_MF209, List.forall_mem_cons.mpr ⟨rp_MF210, List.forall_mem_cons.mpr ⟨rp_MF211, List.forall_mem_cons.mpr ⟨rp_MF212, List.forall_mem_cons.mpr ⟨rp_MF213, List.forall_mem_cons.mpr ⟨rp_MF214, List.forall_mem_cons.mpr ⟨rp_MF215, List.forall_mem_cons.mpr ⟨rp_MF216, List.forall_mem_cons.mpr ⟨rp_MF217, List.forall_mem_cons.mpr ⟨rp_MF218, List.forall_mem_cons.mpr ⟨rp_MF219, List.forall_mem_cons.mpr ⟨rp_MF220, List.forall_mem_cons.mpr ⟨rp_MF221, List.forall_mem_cons.mpr ⟨rp_MF222, List.forall_mem_cons.mpr ⟨rp_MF223, List.forall_mem_cons.mpr ⟨rp_MF224, List.forall_mem_cons.mpr ⟨rp_MF225, List.forall_mem_cons.mpr ⟨rp_MF226, List.forall_mem_cons.mpr ⟨rp_MF227, List.forall_mem_cons.mpr ⟨rp_MF228, List.forall_mem_cons.mpr ⟨rp_MF229, fun _ h => absurd h List.not_mem_nil⟩⟩⟩⟩⟩⟩⟩⟩⟩⟩⟩⟩⟩⟩⟩⟩⟩⟩⟩⟩⟩⟩⟩⟩⟩⟩⟩⟩⟩⟩⟩⟩⟩⟩⟩⟩⟩⟩⟩⟩⟩⟩⟩⟩⟩⟩⟩⟩⟩⟩⟩⟩⟩⟩⟩⟩⟩⟩⟩⟩⟩⟩⟩⟩⟩⟩⟩⟩⟩⟩⟩⟩⟩⟩⟩⟩⟩⟩⟩⟩⟩⟩⟩⟩⟩⟩⟩⟩⟩⟩⟩⟩⟩⟩⟩⟩⟩⟩⟩⟩⟩⟩⟩⟩⟩⟩⟩⟩⟩⟩⟩⟩⟩⟩⟩⟩⟩⟩⟩⟩⟩⟩⟩⟩⟩⟩⟩⟩⟩⟩⟩⟩⟩⟩⟩⟩⟩⟩⟩⟩⟩⟩⟩⟩⟩⟩⟩⟩⟩⟩⟩⟩⟩⟩⟩⟩⟩⟩⟩⟩⟩⟩⟩⟩⟩⟩⟩⟩⟩⟩⟩⟩⟩⟩⟩⟩⟩⟩⟩⟩⟩⟩⟩⟩⟩⟩⟩⟩⟩⟩⟩⟩⟩⟩⟩⟩⟩⟩⟩⟩⟩⟩⟩⟩⟩⟩⟩⟩⟩⟩⟩⟩⟩⟩⟩⟩⟩⟩⟩⟩⟩⟩⟩⟩⟩⟩⟩⟩⟩⟩
  exact h c (e ▸ List.mem_range.mpr hc)
def rp_ct : List (Nat × Nat × Nat × Nat × Nat × Nat) := [(7, 3, 5000, 5, 102, 0), (7, 11, 1, 3, 107, 108), (7, 21, 7, 4, 0, 191), (7, 28, 8, 3, 218, 219), (7, 35, 10, 4, 1, 234), (7, 42, 11, 4, 2, 283), (7, 49, 12, 4, 3, 296), (7, 54, 14, 1, 347, 348), (7, 58, 16, 1, 353, 354), (7, 61, 15, 1, 350, 351), (7, 69, 4, 0, 356, 139), (7, 75, 3, 0, 357, 135), (7, 79, 5, 0, 358, 143), (7, 83, 17, 1, 359, 360), (7, 87, 18, 0, 362, 363), (7, 91, 25, 0, 391, 392), (7, 94, 26, 1, 395, 396), (7, 97, 27, 1, 398, 399), (7, 103, 20, 0, 401, 371), (7, 111, 31, 0, 414, 415), (7, 114, 32, 0, 418, 419), (7, 118, 34, 0, 427, 428), (7, 121, 54, 0, 567, 568), (7, 124, 55, 1, 571, 572), (7, 130, 51, 0, 574, 555), (7, 134, 56, 0, 575, 576), (7, 137, 58, 0, 584, 585), (7, 140, 60, 1, 593, 594), (7, 146, 61, 0, 596, 597), (7, 150, 64, 0, 608, 609), (7, 153, 66, 0, 617, 618), (7, 156, 67, 0, 621, 622), (7, 159, 68, 0, 625, 626), (7, 162, 70, 0, 634, 635), (7, 165, 72, 0, 642, 643), (7, 172, 77, 0, 663, 664), (7, 175, 81, 0, 679, 680), (7, 179, 19, 0, 685, 367), (7, 180, 75, 0, 690, 656), (7, 183, 69, 0, 695, 630), (7, 189, 87, 0, 708, 709), (7, 193, 101, 0, 769, 770), (7, 196, 102, 0, 773, 774), (7, 199, 103, 0, 777, 778), (7, 202, 104, 0, 781, 782), (7, 205, 105, 0, 791, 792), (7, 208, 107, 0, 799, 800), (7, 211, 88, 0, 807, 713), (7, 215, 99, 0, 808, 762), (7, 218, 110, 0, 813, 814), (7, 222, 112, 0, 822, 823), (7, 229, 117, 0, 845, 846), (7, 232, 120, 0, 860, 862), (7, 238, 22, 0, 868, 380), (7, 242, 122, 0, 869, 870), (7, 245, 124, 0, 877, 878), (7, 248, 126, 0, 885, 886), (7, 251, 134, 0, 921, 922), (7, 254, 135, 0, 925, 926), (7, 257, 136, 0, 929, 930), (7, 260, 137, 0, 933, 934), (7, 263, 138, 0, 941, 938), (7, 266, 140, 0, 946, 947), (7, 269, 143, 0, 959, 960), (7, 272, 145, 0, 967, 968), (0, 3, 5000, 5, 110, 0), (0, 11, 2, 3, 113, 114), (0, 38, 3, 0, 134, 135), (0, 42, 146, 0, 971, 972), (0, 50, 20, 0, 588, 371), (0, 54, 62, 2, 4, 602), (0, 57, 5, 0, 600, 143), (0, 61, 69, 0, 629, 630), (0, 65, 64, 0, 633, 609), (0, 69, 73, 0, 646, 647), (0, 73, 74, 0, 650, 651), (0, 77, 70, 0, 654, 635), (0, 80, 19, 0, 612, 367), (0, 83, 65, 0, 613, 615), (0, 87, 75, 0, 655, 656), (0, 90, 78, 0, 667, 668), (1, 3, 5000, 5, 193, 0), (1, 27, 35, 0, 431, 433), (1, 30, 37, 0, 439, 441), (1, 36, 40, 0, 453, 455), (1, 40, 44, 0, 526, 528), (1, 44, 36, 0, 435, 437), (1, 54, 41, 0, 457, 459), (1, 58, 45, 1, 530, 531), (1, 61, 46, 0, 533, 535), (1, 64, 49, 0, 547, 549), (1, 67, 52, 0, 558, 560), (1, 72, 48, 0, 543, 545), (1, 76, 53, 0, 563, 565), (1, 79, 50, 1, 551, 552), (1, 83, 47, 0, 537, 539), (1, 89, 51, 0, 554, 555), (1, 92, 43, 0, 474, 476), (1, 95, 38, 0, 443, 445), (1, 98, 42, 1, 461, 462), (1, 122, 39, 1, 450, 451), (1, 125, 15, 2, 5, 351), (1, 129, 5003, 5, 478, 0), (1, 134, 5004, 5, 488, 0), (1, 138, 5002, 5, 447, 0), (2, 3, 5000, 5, 298, 0), (2, 24, 127, 0, 889, 891), (2, 41, 129, 0, 899, 901), (2, 45, 132, 0, 910, 912), (2, 49, 19, 0, 893, 367), (2, 55, 20, 0, 894, 371), (2, 59, 128, 0, 895, 897), (2, 63, 130, 1, 903, 904), (2, 67, 131, 0, 906, 908), (2, 71, 22, 0, 914, 380), (2, 77, 122, 0, 915, 870), (2, 83, 124, 0, 916, 878), (2, 86, 133, 0, 917, 919), (2, 89, 138, 0, 937, 938), (2, 92, 137, 0, 950, 934), (3, 3, 5000, 5, 236, 0), (3, 37, 20, 0, 716, 371), (3, 55, 19, 0, 717, 367), (3, 58, 89, 0, 718, 720), (3, 62, 95, 0, 745, 747), (3, 68, 78, 0, 722, 668), (3, 72, 73, 0, 723, 647), (3, 76, 90, 0, 724, 726), (3, 80, 74, 0, 744, 651), (3, 84, 91, 0, 728, 730), (3, 87, 92, 0, 732, 734), (3, 90, 93, 0, 736, 738), (3, 93, 94, 0, 740, 742), (3, 100, 96, 0, 749, 751), (3, 104, 97, 0, 753, 755), (3, 107, 98, 0, 757, 759), (3, 111, 100, 0, 765, 767), (3, 118, 88, 0, 712, 713), (3, 131, 99, 0, 761, 762), (3, 134, 5005, 5, 785, 0), (3, 139, 106, 0, 795, 797), (4, 3, 5000, 5, 285, 0), (4, 11, 2, 3, 287, 114), (4, 20, 88, 0, 817, 713), (4, 26, 111, 0, 818, 819), (4, 30, 113, 0, 826, 827), (4, 33, 3, 0, 830, 135), (4, 37, 5, 0, 831, 143), (4, 41, 99, 0, 832, 762), (4, 45, 118, 0, 849, 851), (4, 49, 19, 0, 855, 367), (4, 52, 25, 0, 853, 392), (4, 55, 20, 0, 854, 371), (5, 1, 5000, 5, 116, 0), (5, 7, 5001, 5, 117, 0), (5, 29, 6, 0, 146, 148), (5, 32, 4, 0, 138, 139), (5, 36, 5, 0, 142, 143), (5, 40, 25, 0, 683, 392), (5, 44, 20, 0, 684, 371), (5, 47, 5002, 5, 975, 0), (6, 3, 5000, 5, 221, 0), (6, 15, 9, 0, 222, 224), (6, 18, 19, 0, 366, 367), (6, 24, 20, 0, 370, 371), (6, 28, 21, 0, 374, 376), (6, 32, 22, 0, 379, 380), (6, 36, 23, 0, 383, 385), (6, 40, 14, 2, 6, 348), (9, 9, 0, 3, 99, 100), (9, 12, 148, 3, 982, 983), (9, 13, 13, 0, 343, 344), (9, 17, 149, 0, 1087, 1088), (9, 18, 24, 0, 387, 388), (9, 22, 152, 0, 1097, 1098), (9, 23, 28, 0, 402, 403), (9, 27, 153, 0, 1101, 1102), (9, 28, 29, 0, 406, 407), (9, 32, 156, 0, 1113, 1114), (9, 35, 30, 0, 410, 411), (9, 39, 157, 0, 1117, 1118), (9, 40, 33, 0, 423, 424), (9, 43, 158, 0, 1122, 1123), (9, 44, 57, 0, 580, 581), (9, 47, 170, 0, 1167, 1168), (9, 48, 59, 0, 589, 590), (9, 52, 172, 0, 1175, 1176), (9, 53, 63, 0, 604, 605), (9, 56, 191, 0, 1249, 1250), (9, 57, 71, 0, 638, 639), (9, 61, 174, 0, 1182, 1183), (9, 62, 76, 0, 659, 660), (9, 65, 185, 0, 1225, 1226), (9, 66, 79, 0, 671, 672), (9, 69, 187, 0, 1233, 1234), (9, 70, 80, 0, 675, 676), (9, 73, 189, 0, 1241, 1242), (9, 74, 82, 0, 686, 687), (9, 77, 190, 0, 1245, 1246), (9, 78, 83, 0, 691, 692), (9, 81, 193, 0, 1257, 1258), (9, 82, 84, 0, 696, 697), (9, 85, 194, 0, 1261, 1262), (9, 86, 85, 0, 700, 701), (9, 90, 195, 0, 1265, 1266), (9, 91, 86, 0, 704, 705), (9, 94, 202, 0, 1293, 1294), (9, 95, 108, 0, 803, 804), (9, 98, 196, 0, 1269, 1270), (9, 99, 109, 0, 809, 810), (9, 102, 204, 0, 1301, 1302), (9, 103, 114, 0, 833, 834), (9, 106, 207, 0, 1313, 1314), (9, 107, 115, 0, 837, 838), (9, 110, 208, 0, 1317, 1318), (9, 111, 116, 0, 841, 842), (9, 114, 209, 0, 1321, 1322), (9, 115, 119, 0, 856, 857), (9, 119, 214, 0, 1342, 1343), (9, 120, 121, 0, 864, 865), (9, 123, 210, 0, 1325, 1326), (9, 124, 123, 0, 873, 874), (9, 127, 213, 0, 1338, 1339), (9, 128, 125, 0, 881, 882), (9, 131, 215, 0, 1346, 1347), (9, 132, 139, 0, 942, 943), (9, 135, 221, 0, 1370, 1371), (9, 136, 141, 0, 951, 952), (9, 139, 224, 0, 1382, 1383), (9, 140, 142, 0, 955, 956), (9, 143, 225, 0, 1386, 1387), (9, 144, 144, 0, 963, 964), (9, 147, 226, 0, 1390, 1391), (9, 148, 147, 0, 976, 977), (9, 151, 229, 0, 1402, 1403), (8, 1, 5000, 5, 985, 0), (8, 68, 151, 1, 1094, 1095), (8, 72, 150, 1, 1091, 1092), (8, 76, 154, 0, 1105, 1107), (8, 79, 155, 0, 1109, 1111), (8, 100, 161, 1, 1133, 1134), (8, 103, 162, 1, 1136, 1137), (8, 109, 163, 0, 1139, 1141), (8, 113, 160, 0, 1129, 1131), (8, 116, 166, 0, 1151, 1153), (8, 119, 167, 0, 1155, 1157), (8, 123, 165, 0, 1147, 1149), (8, 130, 168, 0, 1159, 1161), (8, 134, 169, 0, 1163, 1165), (8, 138, 159, 1, 1126, 1127), (8, 141, 164, 0, 1143, 1145), (8, 144, 171, 0, 1171, 1173), (8, 147, 173, 1, 1179, 1180), (8, 150, 179, 1, 1202, 1203), (8, 154, 180, 0, 1205, 1207), (8, 158, 182, 0, 1213, 1215), (8, 161, 181, 0, 1209, 1211), (8, 164, 178, 0, 1198, 1200), (8, 168, 183, 0, 1217, 1219), (8, 171, 184, 0, 1221, 1223), (8, 174, 176, 0, 1190, 1192), (8, 177, 175, 0, 1186, 1188), (8, 180, 177, 0, 1194, 1196), (8, 183, 186, 0, 1229, 1231), (8, 187, 188, 0, 1237, 1239), (8, 190, 192, 0, 1253, 1255), (8, 193, 199, 0, 1281, 1283), (8, 196, 200, 0, 1285, 1287), (8, 208, 198, 0, 1277, 1279), (8, 211, 201, 0, 1289, 1291), (8, 215, 197, 0, 1273, 1275), (8, 218, 203, 0, 1297, 1299), (8, 224, 206, 0, 1309, 1311), (8, 228, 205, 0, 1305, 1307), (8, 235, 212, 0, 1333, 1335), (8, 238, 211, 0, 1329, 1331), (8, 242, 219, 0, 1362, 1364), (8, 245, 218, 0, 1358, 1360), (8, 248, 220, 0, 1366, 1368), (8, 251, 216, 0, 1350, 1352), (8, 254, 217, 0, 1354, 1356), (8, 257, 223, 0, 1378, 1380), (8, 260, 222, 0, 1374, 1376), (8, 267, 228, 0, 1398, 1400), (8, 271, 227, 0, 1394, 1396)]
def rp_libs : List MethodName := [objectInit, Lib.Math.max.name, Lib.Math.min.name, ⟨"java/lang/String", "length", "()I"⟩, ⟨"java/lang/String", "charAt", "(I)C"⟩, ⟨"java/lang/Integer", "bitCount", "(I)I"⟩]
def rp_ctb (q : Nat × Nat × Nat × Nat × Nat × Nat) : Bool := match q.2.2.2.1 with
  | 0 => decide (lw_tbl[q.2.2.2.2.1]? = some (.methodLink (rp_cn q.1) q.2.1 (rp_mt q.2.2.1).1)) && (decide (lw_tbl[q.2.2.2.2.2]? = some (.instanceMethod (rp_mt q.2.2.1).1)) && (decide (lw_tbl[(rp_mq.getD q.2.2.1 (0, 0, 0, 0)).2.2.1]? = some (.selects (rp_mt q.2.2.1).1.cls (rp_mt q.2.2.1).1 (rp_mt q.2.2.1).1)) && decide (q.2.2.1 < 230)))
  | 1 => decide (lw_tbl[q.2.2.2.2.1]? = some (.methodLink (rp_cn q.1) q.2.1 (rp_mt q.2.2.1).1)) && (decide (lw_tbl[q.2.2.2.2.2]? = some (.static (rp_mt q.2.2.1).1)) && decide (q.2.2.1 < 230))
  | 2 => decide (lw_tbl[q.2.2.2.2.2]? = some (.static (rp_mt q.2.2.1).1)) && decide (q.2.2.1 < 230)
  | 3 => decide (lw_tbl[q.2.2.2.2.1]? = some (.methodLink (rp_cn q.1) q.2.1 (rp_mt q.2.2.1).1)) && (decide (lw_tbl[q.2.2.2.2.2]? = some (.instanceMethod (rp_mt q.2.2.1).1)) && (decide ((rp_mt q.2.2.1).1.name = "<init>") && (decide ((rp_mt q.2.2.1).2.2.2.1 = none) && decide (q.2.2.1 < 230))))
  | 4 => decide (lw_tbl[q.2.2.2.2.2]? = some (.instanceMethod (rp_mt q.2.2.1).1)) && (decide ((rp_mt q.2.2.1).1.name = "<init>") && (decide ((rp_mt q.2.2.1).2.2.2.1 = none) && decide (q.2.2.1 < 230)))
  | 5 => decide (lw_tbl[q.2.2.2.2.1]? = some (.methodLink (rp_cn q.1) q.2.1 (rp_libs.getD (q.2.2.1 - 5000) objectInit))) && (decide (5000 ≤ q.2.2.1) && decide (q.2.2.1 < 5006))
  | _ => false
theorem rp_ct_ok : rp_ct.all rp_ctb = true := by decide +kernel
/-- links within the nest: (class, index, method, host) -/
def rp_ns : List (Nat × Nat × Nat × String) := [(7, 21, 7, "RailPasses"), (7, 35, 10, "RailPasses"), (7, 42, 11, "RailPasses"), (7, 49, 12, "RailPasses"), (0, 54, 62, "RailPasses"), (1, 125, 15, "RailPasses"), (6, 40, 14, "RailPasses")]
theorem rp_ns_ok : ∀ q ∈ rp_ns, Cond.methodLinkNest (rp_cn q.1) q.2.1 (rp_mt q.2.2.1).1 q.2.2.2 ∈ lw_tbl := List.forall_mem_cons.mpr ⟨List.mem_of_getElem? (i := 190) (by decide +kernel), List.forall_mem_cons.mpr ⟨List.mem_of_getElem? (i := 233) (by decide +kernel), List.forall_mem_cons.mpr ⟨List.mem_of_getElem? (i := 282) (by decide +kernel), List.forall_mem_cons.mpr ⟨List.mem_of_getElem? (i := 295) (by decide +kernel), List.forall_mem_cons.mpr ⟨List.mem_of_getElem? (i := 601) (by decide +kernel), List.forall_mem_cons.mpr ⟨List.mem_of_getElem? (i := 541) (by decide +kernel), List.forall_mem_cons.mpr ⟨List.mem_of_getElem? (i := 378) (by decide +kernel), fun _ h => absurd h List.not_mem_nil⟩⟩⟩⟩⟩⟩⟩
theorem rp_nsct : ∀ q ∈ rp_ct, (q.2.2.2.1 = 2 ∨ q.2.2.2.1 = 4) → ∃ host, rp_ns[q.2.2.2.2.1]? = some (q.1, q.2.1, q.2.2.1, host) := by
  have h : ∀ q ∈ rp_ct, ((rp_ns[q.2.2.2.2.1]?).map (fun z => (z.1, z.2.1, z.2.2.1)) = some (q.1, q.2.1, q.2.2.1)) ∨ ¬ (q.2.2.2.1 = 2 ∨ q.2.2.2.1 = 4) := by decide +kernel
  intro q hq hk
  rcases h q hq with h | h
  · obtain ⟨z, h1, h2⟩ := Option.map_eq_some_iff.mp h
    obtain ⟨a, b, c, d⟩ := z
    cases h2
    exact ⟨d, h1⟩
  · exact absurd hk h
/-- an instruction's row is as the class files have it -/
def rp_tso (pc : Nat) (lo : Int) (offs : List Int) (l : List (Int32 × Nat)) : Bool := match offs, l with
  | [], [] => true
  | o :: offs, q :: l => decide (q.1.toInt = lo) && (decide ((pc : Int) + o = (q.2 : Int)) && rp_tso pc (lo + 1) offs l)
  | _, _ => false
def rp_lso (pc : Nat) (ps : List (Int × Int)) (l : List (Int32 × Nat)) : Bool := match ps, l with
  | [], [] => true
  | o :: ps, q :: l => decide (q.1.toInt = o.1) && (decide ((pc : Int) + o.2 = (q.2 : Int)) && rp_lso pc ps l)
  | _, _ => false
def rp_has4 (a b c d : Nat) : Bool := rp_ft.any fun q => Nat.beq q.1 a && (Nat.beq q.2.1 b && (Nat.beq q.2.2.1 c && Nat.beq q.2.2.2.1 d))
def rp_hasN (a b c : Nat) : Bool := rp_nt.any fun q => Nat.beq q.1 a && (Nat.beq q.2.1 b && Nat.beq q.2.2.1 c)
def rp_hasC (a b c : Nat) (ks : Nat → Bool) : Bool := rp_ct.any fun q => Nat.beq q.1 a && (Nat.beq q.2.1 b && (Nat.beq q.2.2.1 c && ks q.2.2.2.1))
/-- the room of a call, by the tables -/
def rp_rok (j c : Nat) : Bool := Nat.ble ((rp_mt c).2.2.2.2.2.1 + 1) (rp_mt j).2.2.2.2.2.1 && Nat.ble (8 + ((rp_mt c).2.2.1 + 11) + (rp_mt c).2.2.2.2.2.2.1) (rp_mt j).2.2.2.2.2.2.1
def rp_lok (j f w : Nat) : Bool := Nat.ble f (rp_mt j).2.2.2.2.2.1 && Nat.ble w (rp_mt j).2.2.2.2.2.2.1
def rp_putok (j : Nat) (i : rp_In) : Bool := bif i.2.2.2.isEmpty then (!(rp_TT i.1 i.2.1).2.2.2 && (match rp_ty i.1 i.2.1, i.2.2.1 with
    | .int, .null => true
    | .boolean, .int _ => true
    | _, _ => false))
  else ((rp_TT i.1 i.2.1).2.2.2 && (decide ((rp_mt j).1.name = "<init>") && (Nat.beq i.1 (rp_mt j).2.2.2.2.1 && (match rp_ty i.1 i.2.1, i.2.2.1 with
    | .int, .long _ => true
    | .object _, .ref _ => true
    | .array _, .ref _ => true
    | _, _ => false))))
def rp_okE (j : Nat) (e : rp_En) : Bool := match e with
  | (pc, I, n, i) => match I with
    | .iconst k => Nat.beq n 1 && decide (i.2.2.1 = .int (Int32.ofInt k))
    | .bipush k => Nat.beq n 2 && decide (i.2.2.1 = .int (Int8.ofInt k).toInt32)
    | .sipush k => Nat.beq n 3 && decide (i.2.2.1 = .int (Int16.ofInt k).toInt32)
    | .ldc x => Nat.beq n 2 && (match i.2.2.1 with
      | .int v => rp_kti.any fun q => Nat.beq q.1 (rp_mt j).2.2.2.2.1 && (Nat.beq q.2.1 x && decide (q.2.2.1 = v))
      | .ref a => Nat.beq (rp_mt j).2.2.2.2.1 1 && (Nat.ble 1000 a && (Nat.blt a 1012 && decide (rp_si[a - 1000]? = some x)))
      | _ => false)
    | .ldc2_w x => Nat.beq n 3 && (match i.2.2.1 with
      | .long v => rp_ktl.any fun q => Nat.beq q.1 (rp_mt j).2.2.2.2.1 && (Nat.beq q.2.1 x && decide (q.2.2.1 = v))
      | _ => false)
    | .iload_n k => Nat.beq n 1 && Nat.beq i.1 k.val
    | .lload_n k => Nat.beq n 1 && Nat.beq i.1 k.val
    | .aload_n k => Nat.beq n 1 && Nat.beq i.1 k.val
    | .istore_n k => Nat.beq n 1 && Nat.beq i.1 k.val
    | .astore_n k => Nat.beq n 1 && Nat.beq i.1 k.val
    | .iload k => Nat.beq n 2 && Nat.beq i.1 k
    | .aload k => Nat.beq n 2 && Nat.beq i.1 k
    | .istore k => Nat.beq n 2 && Nat.beq i.1 k
    | .iinc k c => Nat.beq n 3 && (Nat.beq i.1 k && decide (i.2.2.1 = .int (Int32.ofInt c)))
    | .iadd => Nat.beq n 1
    | .isub => Nat.beq n 1
    | .imul => Nat.beq n 1
    | .iand => Nat.beq n 1
    | .ior => Nat.beq n 1
    | .ishl => Nat.beq n 1
    | .ishr => Nat.beq n 1
    | .idiv => Nat.beq n 1
    | .irem => Nat.beq n 1
    | .i2l => Nat.beq n 1
    | .l2i => Nat.beq n 1
    | .land => Nat.beq n 1
    | .lor => Nat.beq n 1
    | .lshl => Nat.beq n 1
    | .lushr => Nat.beq n 1
    | .dup => Nat.beq n 1
    | .dup2 => Nat.beq n 1
    | .pop => Nat.beq n 1
    | .ifCond _ off => Nat.beq n 3 && decide ((pc : Int) + off = (i.1 : Int))
    | .if_icmp _ off => Nat.beq n 3 && decide ((pc : Int) + off = (i.1 : Int))
    | .goto off => Nat.beq n 3 && decide ((pc : Int) + off = (i.1 : Int))
    | .tableswitch d lo hi offs => decide ((pc : Int) + d = (i.1 : Int)) && (decide (lo + (offs.size : Int) = hi + 1) && rp_tso pc lo offs.toList i.2.2.2)
    | .lookupswitch d ps => decide ((pc : Int) + d = (i.1 : Int)) && ((ps.toList.zip (ps.toList.drop 1)).all (fun (a, next) => a.1 < next.1) && rp_lso pc ps.toList i.2.2.2)
    | .getfield x => Nat.beq n 3 && rp_has4 (rp_mt j).2.2.2.2.1 x i.1 i.2.1
    | .putfield x => Nat.beq n 3 && (rp_has4 (rp_mt j).2.2.2.2.1 x i.1 i.2.1 && rp_putok j i)
    | .iaload => Nat.beq n 1
    | .baload => Nat.beq n 1
    | .iastore => Nat.beq n 1
    | .bastore => Nat.beq n 1
    | .arraylength => Nat.beq n 1
    | .new x => Nat.beq n 3 && rp_hasN (rp_mt j).2.2.2.2.1 x i.1
    | .newarray _ => Nat.beq n 2
    | .ireturn => Nat.beq n 1
    | .areturn => Nat.beq n 1
    | .return_ => Nat.beq n 1
    | .invokevirtual x => Nat.beq n 3 && (bif Nat.ble 5000 i.1 then rp_hasC (rp_mt j).2.2.2.2.1 x i.1 (Nat.beq 5) && ((Nat.beq i.1 5003 || Nat.beq i.1 5004) && (rp_lok j 4 85 && Nat.beq i.2.1 (i.1 - 5002)))
      else (rp_hasC (rp_mt j).2.2.2.2.1 x i.1 (Nat.beq 0) && (rp_rok j i.1 && Nat.beq i.2.1 ((rp_mq.getD i.1 (0, 0, 0, 0)).2.2.2 + 1))))
    | .invokestatic x => Nat.beq n 3 && (bif Nat.ble 5000 i.1 then rp_hasC (rp_mt j).2.2.2.2.1 x i.1 (Nat.beq 5) && ((Nat.beq i.1 5001 || Nat.beq i.1 5002) && (rp_lok j 1 21 && Nat.beq i.2.1 2) || Nat.beq i.1 5005 && (rp_lok j 1 20 && Nat.beq i.2.1 1))
      else (rp_hasC (rp_mt j).2.2.2.2.1 x i.1 (fun k => Nat.beq k 1 || Nat.beq k 2) && (rp_rok j i.1 && Nat.beq i.2.1 (rp_mq.getD i.1 (0, 0, 0, 0)).2.2.2)))
    | .invokespecial x => Nat.beq n 3 && (bif Nat.ble 5000 i.1 then rp_hasC (rp_mt j).2.2.2.2.1 x i.1 (Nat.beq 5) && (Nat.beq i.1 5000 && (rp_lok j 1 20 && Nat.beq i.2.1 1))
      else (rp_hasC (rp_mt j).2.2.2.2.1 x i.1 (fun k => Nat.beq k 3 || Nat.beq k 4) && (rp_rok j i.1 && Nat.beq i.2.1 ((rp_mq.getD i.1 (0, 0, 0, 0)).2.2.2 + 1))))
    | _ => false
def rp_decE (j : Nat) (e : rp_En) : Bool := decide (decode (rp_mt j).2.1 e.1 = .ok (e.2.1, e.2.2.1))
def rp_okM (j : Nat) : Bool := (rp_mi j).all fun e => rp_okE j e && rp_decE j e
