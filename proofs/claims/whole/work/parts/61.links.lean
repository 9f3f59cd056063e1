def rp_ft : List (Nat × Nat × Nat × Nat × Nat) := [(5, 22, 5, 0, 116), (5, 13, 5, 1, 117), (5, 19, 5, 2, 118), (5, 26, 5, 3, 119), (0, 14, 0, 0, 146), (7, 65, 0, 0, 147), (2, 80, 0, 0, 148), (0, 20, 0, 1, 149), (3, 59, 0, 1, 150), (7, 100, 0, 1, 151), (0, 23, 0, 2, 152), (3, 28, 0, 2, 153), (7, 127, 0, 2, 154), (0, 26, 0, 3, 155), (7, 143, 0, 3, 156), (0, 29, 0, 4, 157), (7, 169, 0, 4, 158), (0, 32, 0, 5, 159), (3, 49, 0, 5, 160), (7, 186, 0, 5, 161), (0, 35, 0, 6, 162), (2, 18, 0, 6, 163), (7, 235, 0, 6, 164), (0, 46, 0, 7, 165), (7, 107, 0, 7, 166), (1, 9, 1, 0, 190), (1, 18, 1, 1, 191), (1, 33, 1, 2, 192), (1, 48, 1, 3, 193), (1, 15, 1, 4, 194), (1, 51, 1, 5, 195), (1, 22, 1, 6, 196), (6, 9, 6, 0, 223), (3, 9, 3, 0, 233), (3, 15, 3, 1, 234), (3, 18, 3, 2, 235), (3, 21, 3, 3, 236), (3, 40, 3, 4, 237), (3, 43, 3, 5, 238), (3, 46, 3, 6, 239), (3, 25, 3, 7, 240), (3, 105, 3, 8, 241), (3, 108, 3, 9, 242), (3, 111, 3, 10, 243), (4, 14, 4, 0, 275), (7, 226, 4, 0, 276), (2, 9, 2, 0, 286), (2, 38, 2, 1, 287), (2, 28, 2, 2, 288), (2, 32, 2, 3, 289), (2, 35, 2, 4, 290), (2, 15, 2, 5, 291), (7, 12, 7, 0, 305), (7, 16, 7, 1, 306), (7, 275, 7, 2, 307), (7, 22, 7, 3, 308), (7, 29, 7, 4, 309), (7, 36, 7, 5, 310), (7, 43, 7, 6, 311), (7, 50, 7, 7, 312), (8, 7, 8, 0, 956), (8, 13, 8, 1, 957), (8, 16, 8, 2, 958), (8, 19, 8, 3, 959), (8, 22, 8, 4, 960), (8, 25, 8, 5, 961), (8, 28, 8, 6, 962), (8, 31, 8, 7, 963), (8, 34, 8, 8, 964), (8, 82, 8, 9, 965), (8, 97, 8, 10, 966), (8, 91, 8, 11, 967), (8, 88, 8, 12, 968), (8, 94, 8, 13, 969), (8, 106, 8, 14, 970), (8, 127, 8, 15, 971), (8, 37, 8, 16, 972), (8, 40, 8, 17, 973), (8, 43, 8, 18, 974), (8, 199, 8, 19, 975), (8, 202, 8, 20, 976), (8, 205, 8, 21, 977), (8, 47, 8, 22, 978), (8, 221, 8, 23, 979), (8, 50, 8, 24, 980), (8, 231, 8, 25, 981), (8, 53, 8, 26, 982), (8, 56, 8, 27, 983), (8, 59, 8, 28, 984), (8, 62, 8, 29, 985), (8, 275, 8, 30, 986), (8, 65, 8, 31, 987), (8, 264, 8, 32, 988)]
theorem rp_ft_ok : ∀ q ∈ rp_ft, lw_tbl[q.2.2.2.2]? = some (.fieldLink (rp_cn q.1) q.2.1 (rp_cn q.2.2.1) (rp_TT q.2.2.1 q.2.2.2.1).2.1 (rp_TT q.2.2.1 q.2.2.2.1).2.2.1) ∧ q.2.2.1 < 9 ∧ q.2.2.2.1 < rp_NN q.2.2.1 := by decide +kernel
def rp_nt : List (Nat × Nat × Nat × Nat) := [(9, 7, 7, 93), (7, 9, 0, 101), (0, 9, 5, 107), (7, 19, 1, 184), (7, 26, 6, 212), (7, 33, 3, 227), (7, 40, 4, 267), (4, 9, 5, 273), (7, 47, 2, 280), (9, 10, 8, 950)]
theorem rp_nt_ok : ∀ q ∈ rp_nt, lw_tbl[q.2.2.2]? = some (.classLink (rp_cn q.1) q.2.1 (rp_cn q.2.2.1)) ∧ q.2.2.1 < 9 := by decide +kernel
def rp_kti : List (Nat × Nat × Int32 × Nat) := [(6, 39, 536870912, 222), (8, 234, 100000000, 1307)]
theorem rp_kti_ok : ∀ q ∈ rp_kti, lw_tbl[q.2.2.2]? = some (.constant (rp_cn q.1) q.2.1 q.2.2.1) := by decide +kernel
def rp_ktl : List (Nat × Nat × Int64 × Nat) := [(1, 25, 255, 409), (8, 86, 255, 1091), (9, 33, 4294967295, 1376)]
theorem rp_ktl_ok : ∀ q ∈ rp_ktl, lw_tbl[q.2.2.2]? = some (.constantLong (rp_cn q.1) q.2.1 q.2.2.1) := by decide +kernel
def rp_si : List Nat := [102, 104, 106, 108, 110, 112, 114, 116, 118, 120, 87, 70]
def rp_sn : List String := ["days", "price", "rail", "line", "night", "fast", "boat", "child", "refund", "lost", "of", "out"]
def rp_mq : List (Nat × Nat × Nat × Nat) := [(97, 96, 0, 0), (105, 104, 0, 0), (111, 110, 0, 2), (133, 131, 132, 0), (137, 135, 136, 0), (141, 139, 140, 3), (145, 144, 0, 2), (188, 187, 0, 0), (216, 215, 0, 0), (221, 220, 1, 0), (231, 230, 0, 0), (271, 270, 0, 0), (284, 283, 0, 0), (333, 331, 332, 5), (336, 335, 0, 1), (339, 338, 0, 3), (342, 341, 0, 1), (348, 347, 0, 1), (352, 350, 351, 1), (356, 354, 355, 0), (360, 358, 359, 2), (364, 363, 2, 3), (369, 367, 368, 2), (373, 372, 3, 2), (377, 375, 376, 6), (381, 379, 380, 1), (384, 383, 0, 1), (387, 386, 0, 1), (392, 390, 391, 2), (396, 394, 395, 1), (400, 398, 399, 2), (404, 402, 403, 0), (408, 406, 407, 2), (413, 411, 412, 1), (417, 415, 416, 0), (421, 420, 4, 0), (425, 424, 5, 2), (429, 428, 6, 0), (433, 432, 7, 1), (439, 438, 0, 1), (443, 442, 8, 0), (447, 446, 9, 0), (450, 449, 0, 1), (464, 463, 10, 1), (516, 515, 11, 1), (519, 518, 0, 1), (523, 522, 12, 0), (527, 526, 13, 2), (533, 532, 14, 1), (537, 536, 15, 1), (540, 539, 0, 1), (544, 542, 543, 1), (548, 547, 16, 1), (553, 552, 17, 0), (557, 555, 556, 0), (560, 559, 0, 1), (565, 563, 564, 0), (570, 568, 569, 2), (574, 572, 573, 1), (579, 577, 578, 3), (582, 581, 0, 1), (586, 584, 585, 3), (590, 589, 0, 2), (594, 592, 593, 2), (598, 596, 597, 1), (603, 602, 18, 3), (607, 605, 606, 1), (611, 609, 610, 1), (615, 613, 614, 1), (619, 617, 618, 1), (624, 622, 623, 1), (628, 626, 627, 3), (632, 630, 631, 3), (636, 634, 635, 4), (640, 638, 639, 3), (645, 643, 644, 2), (649, 647, 648, 3), (653, 651, 652, 3), (657, 655, 656, 3), (661, 659, 660, 2), (665, 663, 664, 1), (669, 667, 668, 1), (676, 674, 675, 2), (681, 679, 680, 1), (686, 684, 685, 2), (690, 688, 689, 0), (694, 692, 693, 1), (698, 696, 697, 1), (702, 700, 701, 2), (708, 707, 19, 4), (714, 713, 20, 1), (718, 717, 21, 1), (722, 721, 22, 1), (726, 725, 23, 1), (730, 729, 24, 4), (735, 733, 734, 1), (739, 738, 25, 2), (743, 741, 742, 1), (747, 746, 26, 2), (751, 750, 27, 2), (755, 753, 754, 0), (759, 757, 758, 0), (763, 761, 762, 0), (767, 765, 766, 0), (771, 769, 770, 0), (775, 773, 774, 1), (779, 777, 778, 2), (785, 783, 784, 0), (789, 787, 788, 2), (795, 793, 794, 2), (799, 797, 798, 0), (806, 804, 805, 2), (810, 808, 809, 3), (814, 812, 813, 0), (818, 816, 817, 2), (822, 821, 28, 4), (829, 827, 828, 4), (833, 832, 29, 1), (837, 835, 836, 2), (842, 840, 841, 2), (846, 844, 845, 2), (850, 848, 849, 2), (854, 852, 853, 3), (858, 856, 857, 4), (862, 861, 30, 3), (868, 867, 31, 2), (872, 871, 32, 1), (875, 874, 0, 2), (879, 878, 33, 2), (883, 882, 34, 4), (890, 889, 35, 2), (894, 892, 893, 0), (898, 896, 897, 0), (902, 900, 901, 0), (906, 904, 905, 0), (910, 908, 909, 1), (915, 913, 914, 3), (919, 917, 918, 2), (924, 922, 923, 2), (928, 926, 927, 1), (932, 930, 931, 0), (936, 934, 935, 0), (940, 938, 939, 1), (944, 942, 943, 1), (949, 947, 948, 0), (954, 953, 0, 0), (1060, 1058, 1059, 5), (1063, 1062, 0, 1), (1066, 1065, 0, 3), (1070, 1068, 1069, 6), (1074, 1072, 1073, 2), (1078, 1077, 36, 1), (1082, 1081, 37, 1), (1086, 1084, 1085, 1), (1090, 1088, 1089, 2), (1095, 1093, 1094, 1), (1098, 1097, 0, 1), (1102, 1101, 38, 0), (1105, 1104, 0, 1), (1108, 1107, 0, 1), (1112, 1111, 39, 0), (1116, 1115, 40, 0), (1120, 1119, 41, 1), (1124, 1123, 42, 0), (1128, 1127, 43, 2), (1132, 1131, 44, 1), (1136, 1135, 45, 2), (1140, 1138, 1139, 2), (1144, 1143, 46, 1), (1148, 1146, 1147, 3), (1151, 1150, 0, 1), (1155, 1153, 1154, 3), (1159, 1158, 47, 3), (1163, 1162, 48, 1), (1167, 1166, 49, 3), (1171, 1170, 50, 3), (1174, 1173, 0, 4), (1178, 1177, 51, 3), (1182, 1181, 52, 3), (1186, 1185, 53, 1), (1190, 1189, 54, 1), (1194, 1193, 55, 2), (1198, 1196, 1197, 3), (1202, 1201, 56, 3), (1206, 1204, 1205, 2), (1210, 1209, 57, 1), (1214, 1212, 1213, 1), (1218, 1216, 1217, 2), (1222, 1220, 1221, 2), (1226, 1225, 58, 1), (1230, 1228, 1229, 1), (1234, 1232, 1233, 2), (1238, 1236, 1237, 0), (1242, 1240, 1241, 2), (1246, 1245, 59, 2), (1250, 1249, 60, 2), (1254, 1253, 61, 2), (1258, 1257, 62, 2), (1262, 1261, 63, 0), (1266, 1264, 1265, 1), (1270, 1269, 64, 1), (1274, 1272, 1273, 0), (1278, 1277, 65, 0), (1282, 1281, 66, 2), (1286, 1284, 1285, 2), (1290, 1288, 1289, 3), (1294, 1292, 1293, 0), (1298, 1296, 1297, 2), (1302, 1301, 67, 3), (1306, 1305, 68, 1), (1311, 1309, 1310, 2), (1315, 1313, 1314, 4), (1319, 1317, 1318, 3), (1323, 1322, 69, 1), (1327, 1326, 70, 2), (1331, 1330, 71, 3), (1335, 1334, 72, 1), (1339, 1338, 73, 2), (1343, 1341, 1342, 3), (1347, 1346, 74, 4), (1351, 1350, 75, 1), (1355, 1353, 1354, 2), (1359, 1357, 1358, 1), (1363, 1361, 1362, 0), (1367, 1366, 76, 1), (1371, 1370, 77, 3), (1375, 1373, 1374, 0)]
/-- what is known of a method -/
def rp_MF (c : Nat) : Prop := Cond.code (rp_mt c).1 (rp_mt c).2.1 (rp_mt c).2.2.1 (rp_mt c).2.2.2.1 ∈ rp_gt ∧ Cond.initialized (rp_mt c).1.cls ∈ rp_gt ∧ (rp_mt c).1.cls = rp_cn (rp_mt c).2.2.2.2.1 ∧ plainName (rp_mt c).1.cls = true ∧ ((rp_mt c).1.cls ≠ "java/lang/invoke/MethodHandle" ∧ (rp_mt c).1.cls ≠ "java/lang/invoke/VarHandle" ∧ (parseMethodDescriptor (rp_mt c).1.desc).map (fun d => d.parameters.length) = some (rp_mq.getD c (0, 0, 0, 0)).2.2.2) ∧ (rp_mt c).2.2.2.2.1 < 9
set_option maxRecDepth 20000 in
theorem rp_MF0 : rp_MF 0 := ⟨rp_gt_of 97 rfl rfl, rp_ini7, rfl, by decide +kernel, ⟨by decide +kernel, by decide +kernel, by decide +kernel⟩, by decide +kernel⟩
set_option maxRecDepth 20000 in
theorem rp_MF1 : rp_MF 1 := ⟨rp_gt_of 105 rfl rfl, rp_ini0, rfl, by decide +kernel, ⟨by decide +kernel, by decide +kernel, by decide +kernel⟩, by decide +kernel⟩
set_option maxRecDepth 20000 in
theorem rp_MF2 : rp_MF 2 := ⟨rp_gt_of 111 rfl rfl, rp_ini5, rfl, by decide +kernel, ⟨by decide +kernel, by decide +kernel, by decide +kernel⟩, by decide +kernel⟩
set_option maxRecDepth 20000 in
theorem rp_MF3 : rp_MF 3 := ⟨rp_gt_of 133 rfl rfl, rp_ini5, rfl, by decide +kernel, ⟨by decide +kernel, by decide +kernel, by decide +kernel⟩, by decide +kernel⟩
set_option maxRecDepth 20000 in
theorem rp_MF4 : rp_MF 4 := ⟨rp_gt_of 137 rfl rfl, rp_ini5, rfl, by decide +kernel, ⟨by decide +kernel, by decide +kernel, by decide +kernel⟩, by decide +kernel⟩
set_option maxRecDepth 20000 in
theorem rp_MF5 : rp_MF 5 := ⟨rp_gt_of 141 rfl rfl, rp_ini5, rfl, by decide +kernel, ⟨by decide +kernel, by decide +kernel, by decide +kernel⟩, by decide +kernel⟩
set_option maxRecDepth 20000 in
theorem rp_MF6 : rp_MF 6 := ⟨rp_gt_of 145 rfl rfl, rp_ini5, rfl, by decide +kernel, ⟨by decide +kernel, by decide +kernel, by decide +kernel⟩, by decide +kernel⟩
set_option maxRecDepth 20000 in
theorem rp_MF7 : rp_MF 7 := ⟨rp_gt_of 188 rfl rfl, rp_ini1, rfl, by decide +kernel, ⟨by decide +kernel, by decide +kernel, by decide +kernel⟩, by decide +kernel⟩
set_option maxRecDepth 20000 in
theorem rp_MF8 : rp_MF 8 := ⟨rp_gt_of 216 rfl rfl, rp_ini6, rfl, by decide +kernel, ⟨by decide +kernel, by decide +kernel, by decide +kernel⟩, by decide +kernel⟩
set_option maxRecDepth 20000 in
theorem rp_MF9 : rp_MF 9 := ⟨rp_gt_of 221 rfl rfl, rp_ini6, rfl, by decide +kernel, ⟨by decide +kernel, by decide +kernel, by decide +kernel⟩, by decide +kernel⟩
set_option maxRecDepth 20000 in
theorem rp_MF10 : rp_MF 10 := ⟨rp_gt_of 231 rfl rfl, rp_ini3, rfl, by decide +kernel, ⟨by decide +kernel, by decide +kernel, by decide +kernel⟩, by decide +kernel⟩
set_option maxRecDepth 20000 in
theorem rp_MF11 : rp_MF 11 := ⟨rp_gt_of 271 rfl rfl, rp_ini4, rfl, by decide +kernel, ⟨by decide +kernel, by decide +kernel, by decide +kernel⟩, by decide +kernel⟩
set_option maxRecDepth 20000 in
theorem rp_MF12 : rp_MF 12 := ⟨rp_gt_of 284 rfl rfl, rp_ini2, rfl, by decide +kernel, ⟨by decide +kernel, by decide +kernel, by decide +kernel⟩, by decide +kernel⟩
set_option maxRecDepth 20000 in
theorem rp_MF13 : rp_MF 13 := ⟨rp_gt_of 333 rfl rfl, rp_ini7, rfl, by decide +kernel, ⟨by decide +kernel, by decide +kernel, by decide +kernel⟩, by decide +kernel⟩
set_option maxRecDepth 20000 in
theorem rp_MF14 : rp_MF 14 := ⟨rp_gt_of 336 rfl rfl, rp_ini7, rfl, by decide +kernel, ⟨by decide +kernel, by decide +kernel, by decide +kernel⟩, by decide +kernel⟩
set_option maxRecDepth 20000 in
theorem rp_MF15 : rp_MF 15 := ⟨rp_gt_of 339 rfl rfl, rp_ini7, rfl, by decide +kernel, ⟨by decide +kernel, by decide +kernel, by decide +kernel⟩, by decide +kernel⟩
set_option maxRecDepth 20000 in
theorem rp_MF16 : rp_MF 16 := ⟨rp_gt_of 342 rfl rfl, rp_ini7, rfl, by decide +kernel, ⟨by decide +kernel, by decide +kernel, by decide +kernel⟩, by decide +kernel⟩
set_option maxRecDepth 20000 in
theorem rp_MF17 : rp_MF 17 := ⟨rp_gt_of 348 rfl rfl, rp_ini7, rfl, by decide +kernel, ⟨by decide +kernel, by decide +kernel, by decide +kernel⟩, by decide +kernel⟩
set_option maxRecDepth 20000 in
theorem rp_MF18 : rp_MF 18 := ⟨rp_gt_of 352 rfl rfl, rp_ini6, rfl, by decide +kernel, ⟨by decide +kernel, by decide +kernel, by decide +kernel⟩, by decide +kernel⟩
set_option maxRecDepth 20000 in
theorem rp_MF19 : rp_MF 19 := ⟨rp_gt_of 356 rfl rfl, rp_ini5, rfl, by decide +kernel, ⟨by decide +kernel, by decide +kernel, by decide +kernel⟩, by decide +kernel⟩
set_option maxRecDepth 20000 in
theorem rp_MF20 : rp_MF 20 := ⟨rp_gt_of 360 rfl rfl, rp_ini5, rfl, by decide +kernel, ⟨by decide +kernel, by decide +kernel, by decide +kernel⟩, by decide +kernel⟩
set_option maxRecDepth 20000 in
theorem rp_MF21 : rp_MF 21 := ⟨rp_gt_of 364 rfl rfl, rp_ini6, rfl, by decide +kernel, ⟨by decide +kernel, by decide +kernel, by decide +kernel⟩, by decide +kernel⟩
set_option maxRecDepth 20000 in
theorem rp_MF22 : rp_MF 22 := ⟨rp_gt_of 369 rfl rfl, rp_ini6, rfl, by decide +kernel, ⟨by decide +kernel, by decide +kernel, by decide +kernel⟩, by decide +kernel⟩
set_option maxRecDepth 20000 in
theorem rp_MF23 : rp_MF 23 := ⟨rp_gt_of 373 rfl rfl, rp_ini6, rfl, by decide +kernel, ⟨by decide +kernel, by decide +kernel, by decide +kernel⟩, by decide +kernel⟩
set_option maxRecDepth 20000 in
theorem rp_MF24 : rp_MF 24 := ⟨rp_gt_of 377 rfl rfl, rp_ini7, rfl, by decide +kernel, ⟨by decide +kernel, by decide +kernel, by decide +kernel⟩, by decide +kernel⟩
set_option maxRecDepth 20000 in
theorem rp_MF25 : rp_MF 25 := ⟨rp_gt_of 381 rfl rfl, rp_ini5, rfl, by decide +kernel, ⟨by decide +kernel, by decide +kernel, by decide +kernel⟩, by decide +kernel⟩
set_option maxRecDepth 20000 in
theorem rp_MF26 : rp_MF 26 := ⟨rp_gt_of 384 rfl rfl, rp_ini7, rfl, by decide +kernel, ⟨by decide +kernel, by decide +kernel, by decide +kernel⟩, by decide +kernel⟩
set_option maxRecDepth 20000 in
theorem rp_MF27 : rp_MF 27 := ⟨rp_gt_of 387 rfl rfl, rp_ini7, rfl, by decide +kernel, ⟨by decide +kernel, by decide +kernel, by decide +kernel⟩, by decide +kernel⟩
set_option maxRecDepth 20000 in
theorem rp_MF28 : rp_MF 28 := ⟨rp_gt_of 392 rfl rfl, rp_ini7, rfl, by decide +kernel, ⟨by decide +kernel, by decide +kernel, by decide +kernel⟩, by decide +kernel⟩
set_option maxRecDepth 20000 in
theorem rp_MF29 : rp_MF 29 := ⟨rp_gt_of 396 rfl rfl, rp_ini7, rfl, by decide +kernel, ⟨by decide +kernel, by decide +kernel, by decide +kernel⟩, by decide +kernel⟩
set_option maxRecDepth 20000 in
theorem rp_MF30 : rp_MF 30 := ⟨rp_gt_of 400 rfl rfl, rp_ini7, rfl, by decide +kernel, ⟨by decide +kernel, by decide +kernel, by decide +kernel⟩, by decide +kernel⟩
set_option maxRecDepth 20000 in
theorem rp_MF31 : rp_MF 31 := ⟨rp_gt_of 404 rfl rfl, rp_ini1, rfl, by decide +kernel, ⟨by decide +kernel, by decide +kernel, by decide +kernel⟩, by decide +kernel⟩
set_option maxRecDepth 20000 in
theorem rp_MF32 : rp_MF 32 := ⟨rp_gt_of 408 rfl rfl, rp_ini1, rfl, by decide +kernel, ⟨by decide +kernel, by decide +kernel, by decide +kernel⟩, by decide +kernel⟩
set_option maxRecDepth 20000 in
theorem rp_MF33 : rp_MF 33 := ⟨rp_gt_of 413 rfl rfl, rp_ini7, rfl, by decide +kernel, ⟨by decide +kernel, by decide +kernel, by decide +kernel⟩, by decide +kernel⟩
set_option maxRecDepth 20000 in
theorem rp_MF34 : rp_MF 34 := ⟨rp_gt_of 417 rfl rfl, rp_ini1, rfl, by decide +kernel, ⟨by decide +kernel, by decide +kernel, by decide +kernel⟩, by decide +kernel⟩
set_option maxRecDepth 20000 in
theorem rp_MF35 : rp_MF 35 := ⟨rp_gt_of 421 rfl rfl, rp_ini1, rfl, by decide +kernel, ⟨by decide +kernel, by decide +kernel, by decide +kernel⟩, by decide +kernel⟩
set_option maxRecDepth 20000 in
theorem rp_MF36 : rp_MF 36 := ⟨rp_gt_of 425 rfl rfl, rp_ini1, rfl, by decide +kernel, ⟨by decide +kernel, by decide +kernel, by decide +kernel⟩, by decide +kernel⟩
set_option maxRecDepth 20000 in
theorem rp_MF37 : rp_MF 37 := ⟨rp_gt_of 429 rfl rfl, rp_ini1, rfl, by decide +kernel, ⟨by decide +kernel, by decide +kernel, by decide +kernel⟩, by decide +kernel⟩
set_option maxRecDepth 20000 in
theorem rp_MF38 : rp_MF 38 := ⟨rp_gt_of 433 rfl rfl, rp_ini1, rfl, by decide +kernel, ⟨by decide +kernel, by decide +kernel, by decide +kernel⟩, by decide +kernel⟩
set_option maxRecDepth 20000 in
theorem rp_MF39 : rp_MF 39 := ⟨rp_gt_of 439 rfl rfl, rp_ini1, rfl, by decide +kernel, ⟨by decide +kernel, by decide +kernel, by decide +kernel⟩, by decide +kernel⟩
set_option maxRecDepth 20000 in
theorem rp_MF40 : rp_MF 40 := ⟨rp_gt_of 443 rfl rfl, rp_ini1, rfl, by decide +kernel, ⟨by decide +kernel, by decide +kernel, by decide +kernel⟩, by decide +kernel⟩
set_option maxRecDepth 20000 in
theorem rp_MF41 : rp_MF 41 := ⟨rp_gt_of 447 rfl rfl, rp_ini1, rfl, by decide +kernel, ⟨by decide +kernel, by decide +kernel, by decide +kernel⟩, by decide +kernel⟩
set_option maxRecDepth 20000 in
theorem rp_MF42 : rp_MF 42 := ⟨rp_gt_of 450 rfl rfl, rp_ini1, rfl, by decide +kernel, ⟨by decide +kernel, by decide +kernel, by decide +kernel⟩, by decide +kernel⟩
set_option maxRecDepth 20000 in
theorem rp_MF43 : rp_MF 43 := ⟨rp_gt_of 464 rfl rfl, rp_ini1, rfl, by decide +kernel, ⟨by decide +kernel, by decide +kernel, by decide +kernel⟩, by decide +kernel⟩
set_option maxRecDepth 20000 in
theorem rp_MF44 : rp_MF 44 := ⟨rp_gt_of 516 rfl rfl, rp_ini1, rfl, by decide +kernel, ⟨by decide +kernel, by decide +kernel, by decide +kernel⟩, by decide +kernel⟩
set_option maxRecDepth 20000 in
theorem rp_MF45 : rp_MF 45 := ⟨rp_gt_of 519 rfl rfl, rp_ini1, rfl, by decide +kernel, ⟨by decide +kernel, by decide +kernel, by decide +kernel⟩, by decide +kernel⟩
set_option maxRecDepth 20000 in
theorem rp_MF46 : rp_MF 46 := ⟨rp_gt_of 523 rfl rfl, rp_ini1, rfl, by decide +kernel, ⟨by decide +kernel, by decide +kernel, by decide +kernel⟩, by decide +kernel⟩
set_option maxRecDepth 20000 in
theorem rp_MF47 : rp_MF 47 := ⟨rp_gt_of 527 rfl rfl, rp_ini1, rfl, by decide +kernel, ⟨by decide +kernel, by decide +kernel, by decide +kernel⟩, by decide +kernel⟩
set_option maxRecDepth 20000 in
theorem rp_MF48 : rp_MF 48 := ⟨rp_gt_of 533 rfl rfl, rp_ini1, rfl, by decide +kernel, ⟨by decide +kernel, by decide +kernel, by decide +kernel⟩, by decide +kernel⟩
set_option maxRecDepth 20000 in
theorem rp_MF49 : rp_MF 49 := ⟨rp_gt_of 537 rfl rfl, rp_ini1, rfl, by decide +kernel, ⟨by decide +kernel, by decide +kernel, by decide +kernel⟩, by decide +kernel⟩
set_option maxRecDepth 20000 in
theorem rp_MF50 : rp_MF 50 := ⟨rp_gt_of 540 rfl rfl, rp_ini1, rfl, by decide +kernel, ⟨by decide +kernel, by decide +kernel, by decide +kernel⟩, by decide +kernel⟩
set_option maxRecDepth 20000 in
theorem rp_MF51 : rp_MF 51 := ⟨rp_gt_of 544 rfl rfl, rp_ini1, rfl, by decide +kernel, ⟨by decide +kernel, by decide +kernel, by decide +kernel⟩, by decide +kernel⟩
set_option maxRecDepth 20000 in
theorem rp_MF52 : rp_MF 52 := ⟨rp_gt_of 548 rfl rfl, rp_ini1, rfl, by decide +kernel, ⟨by decide +kernel, by decide +kernel, by decide +kernel⟩, by decide +kernel⟩
set_option maxRecDepth 20000 in
theorem rp_MF53 : rp_MF 53 := ⟨rp_gt_of 553 rfl rfl, rp_ini1, rfl, by decide +kernel, ⟨by decide +kernel, by decide +kernel, by decide +kernel⟩, by decide +kernel⟩
set_option maxRecDepth 20000 in
theorem rp_MF54 : rp_MF 54 := ⟨rp_gt_of 557 rfl rfl, rp_ini1, rfl, by decide +kernel, ⟨by decide +kernel, by decide +kernel, by decide +kernel⟩, by decide +kernel⟩
set_option maxRecDepth 20000 in
theorem rp_MF55 : rp_MF 55 := ⟨rp_gt_of 560 rfl rfl, rp_ini7, rfl, by decide +kernel, ⟨by decide +kernel, by decide +kernel, by decide +kernel⟩, by decide +kernel⟩
set_option maxRecDepth 20000 in
theorem rp_MF56 : rp_MF 56 := ⟨rp_gt_of 565 rfl rfl, rp_ini1, rfl, by decide +kernel, ⟨by decide +kernel, by decide +kernel, by decide +kernel⟩, by decide +kernel⟩
set_option maxRecDepth 20000 in
theorem rp_MF57 : rp_MF 57 := ⟨rp_gt_of 570 rfl rfl, rp_ini7, rfl, by decide +kernel, ⟨by decide +kernel, by decide +kernel, by decide +kernel⟩, by decide +kernel⟩
set_option maxRecDepth 20000 in
theorem rp_MF58 : rp_MF 58 := ⟨rp_gt_of 574 rfl rfl, rp_ini0, rfl, by decide +kernel, ⟨by decide +kernel, by decide +kernel, by decide +kernel⟩, by decide +kernel⟩
set_option maxRecDepth 20000 in
theorem rp_MF59 : rp_MF 59 := ⟨rp_gt_of 579 rfl rfl, rp_ini7, rfl, by decide +kernel, ⟨by decide +kernel, by decide +kernel, by decide +kernel⟩, by decide +kernel⟩
set_option maxRecDepth 20000 in
theorem rp_MF60 : rp_MF 60 := ⟨rp_gt_of 582 rfl rfl, rp_ini7, rfl, by decide +kernel, ⟨by decide +kernel, by decide +kernel, by decide +kernel⟩, by decide +kernel⟩
set_option maxRecDepth 20000 in
theorem rp_MF61 : rp_MF 61 := ⟨rp_gt_of 586 rfl rfl, rp_ini0, rfl, by decide +kernel, ⟨by decide +kernel, by decide +kernel, by decide +kernel⟩, by decide +kernel⟩
set_option maxRecDepth 20000 in
theorem rp_MF62 : rp_MF 62 := ⟨rp_gt_of 590 rfl rfl, rp_ini7, rfl, by decide +kernel, ⟨by decide +kernel, by decide +kernel, by decide +kernel⟩, by decide +kernel⟩
set_option maxRecDepth 20000 in
theorem rp_MF63 : rp_MF 63 := ⟨rp_gt_of 594 rfl rfl, rp_ini7, rfl, by decide +kernel, ⟨by decide +kernel, by decide +kernel, by decide +kernel⟩, by decide +kernel⟩
set_option maxRecDepth 20000 in
theorem rp_MF64 : rp_MF 64 := ⟨rp_gt_of 598 rfl rfl, rp_ini0, rfl, by decide +kernel, ⟨by decide +kernel, by decide +kernel, by decide +kernel⟩, by decide +kernel⟩
set_option maxRecDepth 20000 in
theorem rp_MF65 : rp_MF 65 := ⟨rp_gt_of 603 rfl rfl, rp_ini0, rfl, by decide +kernel, ⟨by decide +kernel, by decide +kernel, by decide +kernel⟩, by decide +kernel⟩
set_option maxRecDepth 20000 in
theorem rp_MF66 : rp_MF 66 := ⟨rp_gt_of 607 rfl rfl, rp_ini0, rfl, by decide +kernel, ⟨by decide +kernel, by decide +kernel, by decide +kernel⟩, by decide +kernel⟩
set_option maxRecDepth 20000 in
theorem rp_MF67 : rp_MF 67 := ⟨rp_gt_of 611 rfl rfl, rp_ini0, rfl, by decide +kernel, ⟨by decide +kernel, by decide +kernel, by decide +kernel⟩, by decide +kernel⟩
set_option maxRecDepth 20000 in
theorem rp_MF68 : rp_MF 68 := ⟨rp_gt_of 615 rfl rfl, rp_ini0, rfl, by decide +kernel, ⟨by decide +kernel, by decide +kernel, by decide +kernel⟩, by decide +kernel⟩
set_option maxRecDepth 20000 in
theorem rp_MF69 : rp_MF 69 := ⟨rp_gt_of 619 rfl rfl, rp_ini0, rfl, by decide +kernel, ⟨by decide +kernel, by decide +kernel, by decide +kernel⟩, by decide +kernel⟩
set_option maxRecDepth 20000 in
theorem rp_MF70 : rp_MF 70 := ⟨rp_gt_of 624 rfl rfl, rp_ini0, rfl, by decide +kernel, ⟨by decide +kernel, by decide +kernel, by decide +kernel⟩, by decide +kernel⟩
set_option maxRecDepth 20000 in
theorem rp_MF71 : rp_MF 71 := ⟨rp_gt_of 628 rfl rfl, rp_ini7, rfl, by decide +kernel, ⟨by decide +kernel, by decide +kernel, by decide +kernel⟩, by decide +kernel⟩
set_option maxRecDepth 20000 in
theorem rp_MF72 : rp_MF 72 := ⟨rp_gt_of 632 rfl rfl, rp_ini0, rfl, by decide +kernel, ⟨by decide +kernel, by decide +kernel, by decide +kernel⟩, by decide +kernel⟩
set_option maxRecDepth 20000 in
theorem rp_MF73 : rp_MF 73 := ⟨rp_gt_of 636 rfl rfl, rp_ini0, rfl, by decide +kernel, ⟨by decide +kernel, by decide +kernel, by decide +kernel⟩, by decide +kernel⟩
set_option maxRecDepth 20000 in
theorem rp_MF74 : rp_MF 74 := ⟨rp_gt_of 640 rfl rfl, rp_ini0, rfl, by decide +kernel, ⟨by decide +kernel, by decide +kernel, by decide +kernel⟩, by decide +kernel⟩
set_option maxRecDepth 20000 in
theorem rp_MF75 : rp_MF 75 := ⟨rp_gt_of 645 rfl rfl, rp_ini0, rfl, by decide +kernel, ⟨by decide +kernel, by decide +kernel, by decide +kernel⟩, by decide +kernel⟩
set_option maxRecDepth 20000 in
theorem rp_MF76 : rp_MF 76 := ⟨rp_gt_of 649 rfl rfl, rp_ini7, rfl, by decide +kernel, ⟨by decide +kernel, by decide +kernel, by decide +kernel⟩, by decide +kernel⟩
set_option maxRecDepth 20000 in
theorem rp_MF77 : rp_MF 77 := ⟨rp_gt_of 653 rfl rfl, rp_ini0, rfl, by decide +kernel, ⟨by decide +kernel, by decide +kernel, by decide +kernel⟩, by decide +kernel⟩
set_option maxRecDepth 20000 in
theorem rp_MF78 : rp_MF 78 := ⟨rp_gt_of 657 rfl rfl, rp_ini0, rfl, by decide +kernel, ⟨by decide +kernel, by decide +kernel, by decide +kernel⟩, by decide +kernel⟩
set_option maxRecDepth 20000 in
theorem rp_MF79 : rp_MF 79 := ⟨rp_gt_of 661 rfl rfl, rp_ini7, rfl, by decide +kernel, ⟨by decide +kernel, by decide +kernel, by decide +kernel⟩, by decide +kernel⟩
set_option maxRecDepth 20000 in
theorem rp_MF80 : rp_MF 80 := ⟨rp_gt_of 665 rfl rfl, rp_ini7, rfl, by decide +kernel, ⟨by decide +kernel, by decide +kernel, by decide +kernel⟩, by decide +kernel⟩
set_option maxRecDepth 20000 in
theorem rp_MF81 : rp_MF 81 := ⟨rp_gt_of 669 rfl rfl, rp_ini5, rfl, by decide +kernel, ⟨by decide +kernel, by decide +kernel, by decide +kernel⟩, by decide +kernel⟩
set_option maxRecDepth 20000 in
theorem rp_MF82 : rp_MF 82 := ⟨rp_gt_of 676 rfl rfl, rp_ini7, rfl, by decide +kernel, ⟨by decide +kernel, by decide +kernel, by decide +kernel⟩, by decide +kernel⟩
set_option maxRecDepth 20000 in
theorem rp_MF83 : rp_MF 83 := ⟨rp_gt_of 681 rfl rfl, rp_ini7, rfl, by decide +kernel, ⟨by decide +kernel, by decide +kernel, by decide +kernel⟩, by decide +kernel⟩
set_option maxRecDepth 20000 in
theorem rp_MF84 : rp_MF 84 := ⟨rp_gt_of 686 rfl rfl, rp_ini7, rfl, by decide +kernel, ⟨by decide +kernel, by decide +kernel, by decide +kernel⟩, by decide +kernel⟩
set_option maxRecDepth 20000 in
theorem rp_MF85 : rp_MF 85 := ⟨rp_gt_of 690 rfl rfl, rp_ini7, rfl, by decide +kernel, ⟨by decide +kernel, by decide +kernel, by decide +kernel⟩, by decide +kernel⟩
set_option maxRecDepth 20000 in
theorem rp_MF86 : rp_MF 86 := ⟨rp_gt_of 694 rfl rfl, rp_ini7, rfl, by decide +kernel, ⟨by decide +kernel, by decide +kernel, by decide +kernel⟩, by decide +kernel⟩
set_option maxRecDepth 20000 in
theorem rp_MF87 : rp_MF 87 := ⟨rp_gt_of 698 rfl rfl, rp_ini3, rfl, by decide +kernel, ⟨by decide +kernel, by decide +kernel, by decide +kernel⟩, by decide +kernel⟩
set_option maxRecDepth 20000 in
theorem rp_MF88 : rp_MF 88 := ⟨rp_gt_of 702 rfl rfl, rp_ini3, rfl, by decide +kernel, ⟨by decide +kernel, by decide +kernel, by decide +kernel⟩, by decide +kernel⟩
set_option maxRecDepth 20000 in
theorem rp_MF89 : rp_MF 89 := ⟨rp_gt_of 708 rfl rfl, rp_ini3, rfl, by decide +kernel, ⟨by decide +kernel, by decide +kernel, by decide +kernel⟩, by decide +kernel⟩
set_option maxRecDepth 20000 in
theorem rp_MF90 : rp_MF 90 := ⟨rp_gt_of 714 rfl rfl, rp_ini3, rfl, by decide +kernel, ⟨by decide +kernel, by decide +kernel, by decide +kernel⟩, by decide +kernel⟩
set_option maxRecDepth 20000 in
theorem rp_MF91 : rp_MF 91 := ⟨rp_gt_of 718 rfl rfl, rp_ini3, rfl, by decide +kernel, ⟨by decide +kernel, by decide +kernel, by decide +kernel⟩, by decide +kernel⟩
set_option maxRecDepth 20000 in
theorem rp_MF92 : rp_MF 92 := ⟨rp_gt_of 722 rfl rfl, rp_ini3, rfl, by decide +kernel, ⟨by decide +kernel, by decide +kernel, by decide +kernel⟩, by decide +kernel⟩
set_option maxRecDepth 20000 in
theorem rp_MF93 : rp_MF 93 := ⟨rp_gt_of 726 rfl rfl, rp_ini3, rfl, by decide +kernel, ⟨by decide +kernel, by decide +kernel, by decide +kernel⟩, by decide +kernel⟩
set_option maxRecDepth 20000 in
theorem rp_MF94 : rp_MF 94 := ⟨rp_gt_of 730 rfl rfl, rp_ini3, rfl, by decide +kernel, ⟨by decide +kernel, by decide +kernel, by decide +kernel⟩, by decide +kernel⟩
set_option maxRecDepth 20000 in
theorem rp_MF95 : rp_MF 95 := ⟨rp_gt_of 735 rfl rfl, rp_ini3, rfl, by decide +kernel, ⟨by decide +kernel, by decide +kernel, by decide +kernel⟩, by decide +kernel⟩
set_option maxRecDepth 20000 in
theorem rp_MF96 : rp_MF 96 := ⟨rp_gt_of 739 rfl rfl, rp_ini3, rfl, by decide +kernel, ⟨by decide +kernel, by decide +kernel, by decide +kernel⟩, by decide +kernel⟩
set_option maxRecDepth 20000 in
theorem rp_MF97 : rp_MF 97 := ⟨rp_gt_of 743 rfl rfl, rp_ini3, rfl, by decide +kernel, ⟨by decide +kernel, by decide +kernel, by decide +kernel⟩, by decide +kernel⟩
set_option maxRecDepth 20000 in
theorem rp_MF98 : rp_MF 98 := ⟨rp_gt_of 747 rfl rfl, rp_ini3, rfl, by decide +kernel, ⟨by decide +kernel, by decide +kernel, by decide +kernel⟩, by decide +kernel⟩
set_option maxRecDepth 20000 in
theorem rp_MF99 : rp_MF 99 := ⟨rp_gt_of 751 rfl rfl, rp_ini3, rfl, by decide +kernel, ⟨by decide +kernel, by decide +kernel, by decide +kernel⟩, by decide +kernel⟩
set_option maxRecDepth 20000 in
theorem rp_MF100 : rp_MF 100 := ⟨rp_gt_of 755 rfl rfl, rp_ini3, rfl, by decide +kernel, ⟨by decide +kernel, by decide +kernel, by decide +kernel⟩, by decide +kernel⟩
set_option maxRecDepth 20000 in
theorem rp_MF101 : rp_MF 101 := ⟨rp_gt_of 759 rfl rfl, rp_ini3, rfl, by decide +kernel, ⟨by decide +kernel, by decide +kernel, by decide +kernel⟩, by decide +kernel⟩
set_option maxRecDepth 20000 in
theorem rp_MF102 : rp_MF 102 := ⟨rp_gt_of 763 rfl rfl, rp_ini3, rfl, by decide +kernel, ⟨by decide +kernel, by decide +kernel, by decide +kernel⟩, by decide +kernel⟩
set_option maxRecDepth 20000 in
theorem rp_MF103 : rp_MF 103 := ⟨rp_gt_of 767 rfl rfl, rp_ini3, rfl, by decide +kernel, ⟨by decide +kernel, by decide +kernel, by decide +kernel⟩, by decide +kernel⟩
set_option maxRecDepth 20000 in
theorem rp_MF104 : rp_MF 104 := ⟨rp_gt_of 771 rfl rfl, rp_ini3, rfl, by decide +kernel, ⟨by decide +kernel, by decide +kernel, by decide +kernel⟩, by decide +kernel⟩
set_option maxRecDepth 20000 in
theorem rp_MF105 : rp_MF 105 := ⟨rp_gt_of 775 rfl rfl, rp_ini3, rfl, by decide +kernel, ⟨by decide +kernel, by decide +kernel, by decide +kernel⟩, by decide +kernel⟩
set_option maxRecDepth 20000 in
theorem rp_MF106 : rp_MF 106 := ⟨rp_gt_of 779 rfl rfl, rp_ini7, rfl, by decide +kernel, ⟨by decide +kernel, by decide +kernel, by decide +kernel⟩, by decide +kernel⟩
set_option maxRecDepth 20000 in
theorem rp_MF107 : rp_MF 107 := ⟨rp_gt_of 785 rfl rfl, rp_ini7, rfl, by decide +kernel, ⟨by decide +kernel, by decide +kernel, by decide +kernel⟩, by decide +kernel⟩
set_option maxRecDepth 20000 in
theorem rp_MF108 : rp_MF 108 := ⟨rp_gt_of 789 rfl rfl, rp_ini4, rfl, by decide +kernel, ⟨by decide +kernel, by decide +kernel, by decide +kernel⟩, by decide +kernel⟩
set_option maxRecDepth 20000 in
theorem rp_MF109 : rp_MF 109 := ⟨rp_gt_of 795 rfl rfl, rp_ini4, rfl, by decide +kernel, ⟨by decide +kernel, by decide +kernel, by decide +kernel⟩, by decide +kernel⟩
set_option maxRecDepth 20000 in
theorem rp_MF110 : rp_MF 110 := ⟨rp_gt_of 799 rfl rfl, rp_ini5, rfl, by decide +kernel, ⟨by decide +kernel, by decide +kernel, by decide +kernel⟩, by decide +kernel⟩
set_option maxRecDepth 20000 in
theorem rp_MF111 : rp_MF 111 := ⟨rp_gt_of 806 rfl rfl, rp_ini7, rfl, by decide +kernel, ⟨by decide +kernel, by decide +kernel, by decide +kernel⟩, by decide +kernel⟩
set_option maxRecDepth 20000 in
theorem rp_MF112 : rp_MF 112 := ⟨rp_gt_of 810 rfl rfl, rp_ini7, rfl, by decide +kernel, ⟨by decide +kernel, by decide +kernel, by decide +kernel⟩, by decide +kernel⟩
set_option maxRecDepth 20000 in
theorem rp_MF113 : rp_MF 113 := ⟨rp_gt_of 814 rfl rfl, rp_ini7, rfl, by decide +kernel, ⟨by decide +kernel, by decide +kernel, by decide +kernel⟩, by decide +kernel⟩
set_option maxRecDepth 20000 in
theorem rp_MF114 : rp_MF 114 := ⟨rp_gt_of 818 rfl rfl, rp_ini4, rfl, by decide +kernel, ⟨by decide +kernel, by decide +kernel, by decide +kernel⟩, by decide +kernel⟩
set_option maxRecDepth 20000 in
theorem rp_MF115 : rp_MF 115 := ⟨rp_gt_of 822 rfl rfl, rp_ini4, rfl, by decide +kernel, ⟨by decide +kernel, by decide +kernel, by decide +kernel⟩, by decide +kernel⟩
set_option maxRecDepth 20000 in
theorem rp_MF116 : rp_MF 116 := ⟨rp_gt_of 829 rfl rfl, rp_ini7, rfl, by decide +kernel, ⟨by decide +kernel, by decide +kernel, by decide +kernel⟩, by decide +kernel⟩
set_option maxRecDepth 20000 in
theorem rp_MF117 : rp_MF 117 := ⟨rp_gt_of 833 rfl rfl, rp_ini7, rfl, by decide +kernel, ⟨by decide +kernel, by decide +kernel, by decide +kernel⟩, by decide +kernel⟩
set_option maxRecDepth 20000 in
theorem rp_MF118 : rp_MF 118 := ⟨rp_gt_of 837 rfl rfl, rp_ini7, rfl, by decide +kernel, ⟨by decide +kernel, by decide +kernel, by decide +kernel⟩, by decide +kernel⟩
set_option maxRecDepth 20000 in
theorem rp_MF119 : rp_MF 119 := ⟨rp_gt_of 842 rfl rfl, rp_ini6, rfl, by decide +kernel, ⟨by decide +kernel, by decide +kernel, by decide +kernel⟩, by decide +kernel⟩
set_option maxRecDepth 20000 in
theorem rp_MF120 : rp_MF 120 := ⟨rp_gt_of 846 rfl rfl, rp_ini7, rfl, by decide +kernel, ⟨by decide +kernel, by decide +kernel, by decide +kernel⟩, by decide +kernel⟩
set_option maxRecDepth 20000 in
theorem rp_MF121 : rp_MF 121 := ⟨rp_gt_of 850 rfl rfl, rp_ini6, rfl, by decide +kernel, ⟨by decide +kernel, by decide +kernel, by decide +kernel⟩, by decide +kernel⟩
set_option maxRecDepth 20000 in
theorem rp_MF122 : rp_MF 122 := ⟨rp_gt_of 854 rfl rfl, rp_ini7, rfl, by decide +kernel, ⟨by decide +kernel, by decide +kernel, by decide +kernel⟩, by decide +kernel⟩
set_option maxRecDepth 20000 in
theorem rp_MF123 : rp_MF 123 := ⟨rp_gt_of 858 rfl rfl, rp_ini2, rfl, by decide +kernel, ⟨by decide +kernel, by decide +kernel, by decide +kernel⟩, by decide +kernel⟩
set_option maxRecDepth 20000 in
theorem rp_MF124 : rp_MF 124 := ⟨rp_gt_of 862 rfl rfl, rp_ini2, rfl, by decide +kernel, ⟨by decide +kernel, by decide +kernel, by decide +kernel⟩, by decide +kernel⟩
set_option maxRecDepth 20000 in
theorem rp_MF125 : rp_MF 125 := ⟨rp_gt_of 868 rfl rfl, rp_ini2, rfl, by decide +kernel, ⟨by decide +kernel, by decide +kernel, by decide +kernel⟩, by decide +kernel⟩
set_option maxRecDepth 20000 in
theorem rp_MF126 : rp_MF 126 := ⟨rp_gt_of 872 rfl rfl, rp_ini2, rfl, by decide +kernel, ⟨by decide +kernel, by decide +kernel, by decide +kernel⟩, by decide +kernel⟩
set_option maxRecDepth 20000 in
theorem rp_MF127 : rp_MF 127 := ⟨rp_gt_of 875 rfl rfl, rp_ini2, rfl, by decide +kernel, ⟨by decide +kernel, by decide +kernel, by decide +kernel⟩, by decide +kernel⟩
set_option maxRecDepth 20000 in
theorem rp_MF128 : rp_MF 128 := ⟨rp_gt_of 879 rfl rfl, rp_ini2, rfl, by decide +kernel, ⟨by decide +kernel, by decide +kernel, by decide +kernel⟩, by decide +kernel⟩
set_option maxRecDepth 20000 in
theorem rp_MF129 : rp_MF 129 := ⟨rp_gt_of 883 rfl rfl, rp_ini2, rfl, by decide +kernel, ⟨by decide +kernel, by decide +kernel, by decide +kernel⟩, by decide +kernel⟩
set_option maxRecDepth 20000 in
theorem rp_MF130 : rp_MF 130 := ⟨rp_gt_of 890 rfl rfl, rp_ini2, rfl, by decide +kernel, ⟨by decide +kernel, by decide +kernel, by decide +kernel⟩, by decide +kernel⟩
set_option maxRecDepth 20000 in
theorem rp_MF131 : rp_MF 131 := ⟨rp_gt_of 894 rfl rfl, rp_ini2, rfl, by decide +kernel, ⟨by decide +kernel, by decide +kernel, by decide +kernel⟩, by decide +kernel⟩
set_option maxRecDepth 20000 in
theorem rp_MF132 : rp_MF 132 := ⟨rp_gt_of 898 rfl rfl, rp_ini2, rfl, by decide +kernel, ⟨by decide +kernel, by decide +kernel, by decide +kernel⟩, by decide +kernel⟩
set_option maxRecDepth 20000 in
theorem rp_MF133 : rp_MF 133 := ⟨rp_gt_of 902 rfl rfl, rp_ini2, rfl, by decide +kernel, ⟨by decide +kernel, by decide +kernel, by decide +kernel⟩, by decide +kernel⟩
set_option maxRecDepth 20000 in
theorem rp_MF134 : rp_MF 134 := ⟨rp_gt_of 906 rfl rfl, rp_ini2, rfl, by decide +kernel, ⟨by decide +kernel, by decide +kernel, by decide +kernel⟩, by decide +kernel⟩
set_option maxRecDepth 20000 in
theorem rp_MF135 : rp_MF 135 := ⟨rp_gt_of 910 rfl rfl, rp_ini2, rfl, by decide +kernel, ⟨by decide +kernel, by decide +kernel, by decide +kernel⟩, by decide +kernel⟩
set_option maxRecDepth 20000 in
theorem rp_MF136 : rp_MF 136 := ⟨rp_gt_of 915 rfl rfl, rp_ini7, rfl, by decide +kernel, ⟨by decide +kernel, by decide +kernel, by decide +kernel⟩, by decide +kernel⟩
set_option maxRecDepth 20000 in
theorem rp_MF137 : rp_MF 137 := ⟨rp_gt_of 919 rfl rfl, rp_ini2, rfl, by decide +kernel, ⟨by decide +kernel, by decide +kernel, by decide +kernel⟩, by decide +kernel⟩
set_option maxRecDepth 20000 in
theorem rp_MF138 : rp_MF 138 := ⟨rp_gt_of 924 rfl rfl, rp_ini7, rfl, by decide +kernel, ⟨by decide +kernel, by decide +kernel, by decide +kernel⟩, by decide +kernel⟩
set_option maxRecDepth 20000 in
theorem rp_MF139 : rp_MF 139 := ⟨rp_gt_of 928 rfl rfl, rp_ini7, rfl, by decide +kernel, ⟨by decide +kernel, by decide +kernel, by decide +kernel⟩, by decide +kernel⟩
set_option maxRecDepth 20000 in
theorem rp_MF140 : rp_MF 140 := ⟨rp_gt_of 932 rfl rfl, rp_ini0, rfl, by decide +kernel, ⟨by decide +kernel, by decide +kernel, by decide +kernel⟩, by decide +kernel⟩
set_option maxRecDepth 20000 in
theorem rp_MF141 : rp_MF 141 := ⟨rp_gt_of 936 rfl rfl, rp_ini7, rfl, by decide +kernel, ⟨by decide +kernel, by decide +kernel, by decide +kernel⟩, by decide +kernel⟩
set_option maxRecDepth 20000 in
theorem rp_MF142 : rp_MF 142 := ⟨rp_gt_of 940 rfl rfl, rp_ini0, rfl, by decide +kernel, ⟨by decide +kernel, by decide +kernel, by decide +kernel⟩, by decide +kernel⟩
set_option maxRecDepth 20000 in
theorem rp_MF143 : rp_MF 143 := ⟨rp_gt_of 944 rfl rfl, rp_ini5, rfl, by decide +kernel, ⟨by decide +kernel, by decide +kernel, by decide +kernel⟩, by decide +kernel⟩
set_option maxRecDepth 20000 in
theorem rp_MF144 : rp_MF 144 := ⟨rp_gt_of 949 rfl rfl, rp_ini7, rfl, by decide +kernel, ⟨by decide +kernel, by decide +kernel, by decide +kernel⟩, by decide +kernel⟩
set_option maxRecDepth 20000 in
theorem rp_MF145 : rp_MF 145 := ⟨rp_gt_of 954 rfl rfl, rp_ini8, rfl, by decide +kernel, ⟨by decide +kernel, by decide +kernel, by decide +kernel⟩, by decide +kernel⟩
set_option maxRecDepth 20000 in
theorem rp_MF146 : rp_MF 146 := ⟨rp_gt_of 1060 rfl rfl, rp_ini8, rfl, by decide +kernel, ⟨by decide +kernel, by decide +kernel, by decide +kernel⟩, by decide +kernel⟩
set_option maxRecDepth 20000 in
theorem rp_MF147 : rp_MF 147 := ⟨rp_gt_of 1063 rfl rfl, rp_ini8, rfl, by decide +kernel, ⟨by decide +kernel, by decide +kernel, by decide +kernel⟩, by decide +kernel⟩
set_option maxRecDepth 20000 in
theorem rp_MF148 : rp_MF 148 := ⟨rp_gt_of 1066 rfl rfl, rp_ini8, rfl, by decide +kernel, ⟨by decide +kernel, by decide +kernel, by decide +kernel⟩, by decide +kernel⟩
set_option maxRecDepth 20000 in
theorem rp_MF149 : rp_MF 149 := ⟨rp_gt_of 1070 rfl rfl, rp_ini8, rfl, by decide +kernel, ⟨by decide +kernel, by decide +kernel, by decide +kernel⟩, by decide +kernel⟩
set_option maxRecDepth 20000 in
theorem rp_MF150 : rp_MF 150 := ⟨rp_gt_of 1074 rfl rfl, rp_ini8, rfl, by decide +kernel, ⟨by decide +kernel, by decide +kernel, by decide +kernel⟩, by decide +kernel⟩
set_option maxRecDepth 20000 in
theorem rp_MF151 : rp_MF 151 := ⟨rp_gt_of 1078 rfl rfl, rp_ini8, rfl, by decide +kernel, ⟨by decide +kernel, by decide +kernel, by decide +kernel⟩, by decide +kernel⟩
set_option maxRecDepth 20000 in
theorem rp_MF152 : rp_MF 152 := ⟨rp_gt_of 1082 rfl rfl, rp_ini8, rfl, by decide +kernel, ⟨by decide +kernel, by decide +kernel, by decide +kernel⟩, by decide +kernel⟩
set_option maxRecDepth 20000 in
theorem rp_MF153 : rp_MF 153 := ⟨rp_gt_of 1086 rfl rfl, rp_ini8, rfl, by decide +kernel, ⟨by decide +kernel, by decide +kernel, by decide +kernel⟩, by decide +kernel⟩
set_option maxRecDepth 20000 in
theorem rp_MF154 : rp_MF 154 := ⟨rp_gt_of 1090 rfl rfl, rp_ini8, rfl, by decide +kernel, ⟨by decide +kernel, by decide +kernel, by decide +kernel⟩, by decide +kernel⟩
set_option maxRecDepth 20000 in
theorem rp_MF155 : rp_MF 155 := ⟨rp_gt_of 1095 rfl rfl, rp_ini8, rfl, by decide +kernel, ⟨by decide +kernel, by decide +kernel, by decide +kernel⟩, by decide +kernel⟩
set_option maxRecDepth 20000 in
theorem rp_MF156 : rp_MF 156 := ⟨rp_gt_of 1098 rfl rfl, rp_ini8, rfl, by decide +kernel, ⟨by decide +kernel, by decide +kernel, by decide +kernel⟩, by decide +kernel⟩
set_option maxRecDepth 20000 in
theorem rp_MF157 : rp_MF 157 := ⟨rp_gt_of 1102 rfl rfl, rp_ini8, rfl, by decide +kernel, ⟨by decide +kernel, by decide +kernel, by decide +kernel⟩, by decide +kernel⟩
set_option maxRecDepth 20000 in
theorem rp_MF158 : rp_MF 158 := ⟨rp_gt_of 1105 rfl rfl, rp_ini8, rfl, by decide +kernel, ⟨by decide +kernel, by decide +kernel, by decide +kernel⟩, by decide +kernel⟩
set_option maxRecDepth 20000 in
theorem rp_MF159 : rp_MF 159 := ⟨rp_gt_of 1108 rfl rfl, rp_ini8, rfl, by decide +kernel, ⟨by decide +kernel, by decide +kernel, by decide +kernel⟩, by decide +kernel⟩
set_option maxRecDepth 20000 in
theorem rp_MF160 : rp_MF 160 := ⟨rp_gt_of 1112 rfl rfl, rp_ini8, rfl, by decide +kernel, ⟨by decide +kernel, by decide +kernel, by decide +kernel⟩, by decide +kernel⟩
set_option maxRecDepth 20000 in
theorem rp_MF161 : rp_MF 161 := ⟨rp_gt_of 1116 rfl rfl, rp_ini8, rfl, by decide +kernel, ⟨by decide +kernel, by decide +kernel, by decide +kernel⟩, by decide +kernel⟩
set_option maxRecDepth 20000 in
theorem rp_MF162 : rp_MF 162 := ⟨rp_gt_of 1120 rfl rfl, rp_ini8, rfl, by decide +kernel, ⟨by decide +kernel, by decide +kernel, by decide +kernel⟩, by decide +kernel⟩
set_option maxRecDepth 20000 in
theorem rp_MF163 : rp_MF 163 := ⟨rp_gt_of 1124 rfl rfl, rp_ini8, rfl, by decide +kernel, ⟨by decide +kernel, by decide +kernel, by decide +kernel⟩, by decide +kernel⟩
set_option maxRecDepth 20000 in
theorem rp_MF164 : rp_MF 164 := ⟨rp_gt_of 1128 rfl rfl, rp_ini8, rfl, by decide +kernel, ⟨by decide +kernel, by decide +kernel, by decide +kernel⟩, by decide +kernel⟩
set_option maxRecDepth 20000 in
theorem rp_MF165 : rp_MF 165 := ⟨rp_gt_of 1132 rfl rfl, rp_ini8, rfl, by decide +kernel, ⟨by decide +kernel, by decide +kernel, by decide +kernel⟩, by decide +kernel⟩
set_option maxRecDepth 20000 in
theorem rp_MF166 : rp_MF 166 := ⟨rp_gt_of 1136 rfl rfl, rp_ini8, rfl, by decide +kernel, ⟨by decide +kernel, by decide +kernel, by decide +kernel⟩, by decide +kernel⟩
set_option maxRecDepth 20000 in
theorem rp_MF167 : rp_MF 167 := ⟨rp_gt_of 1140 rfl rfl, rp_ini8, rfl, by decide +kernel, ⟨by decide +kernel, by decide +kernel, by decide +kernel⟩, by decide +kernel⟩
set_option maxRecDepth 20000 in
theorem rp_MF168 : rp_MF 168 := ⟨rp_gt_of 1144 rfl rfl, rp_ini8, rfl, by decide +kernel, ⟨by decide +kernel, by decide +kernel, by decide +kernel⟩, by decide +kernel⟩
set_option maxRecDepth 20000 in
theorem rp_MF169 : rp_MF 169 := ⟨rp_gt_of 1148 rfl rfl, rp_ini8, rfl, by decide +kernel, ⟨by decide +kernel, by decide +kernel, by decide +kernel⟩, by decide +kernel⟩
set_option maxRecDepth 20000 in
theorem rp_MF170 : rp_MF 170 := ⟨rp_gt_of 1151 rfl rfl, rp_ini8, rfl, by decide +kernel, ⟨by decide +kernel, by decide +kernel, by decide +kernel⟩, by decide +kernel⟩
set_option maxRecDepth 20000 in
theorem rp_MF171 : rp_MF 171 := ⟨rp_gt_of 1155 rfl rfl, rp_ini8, rfl, by decide +kernel, ⟨by decide +kernel, by decide +kernel, by decide +kernel⟩, by decide +kernel⟩
set_option maxRecDepth 20000 in
theorem rp_MF172 : rp_MF 172 := ⟨rp_gt_of 1159 rfl rfl, rp_ini8, rfl, by decide +kernel, ⟨by decide +kernel, by decide +kernel, by decide +kernel⟩, by decide +kernel⟩
set_option maxRecDepth 20000 in
theorem rp_MF173 : rp_MF 173 := ⟨rp_gt_of 1163 rfl rfl, rp_ini8, rfl, by decide +kernel, ⟨by decide +kernel, by decide +kernel, by decide +kernel⟩, by decide +kernel⟩
set_option maxRecDepth 20000 in
theorem rp_MF174 : rp_MF 174 := ⟨rp_gt_of 1167 rfl rfl, rp_ini8, rfl, by decide +kernel, ⟨by decide +kernel, by decide +kernel, by decide +kernel⟩, by decide +kernel⟩
set_option maxRecDepth 20000 in
theorem rp_MF175 : rp_MF 175 := ⟨rp_gt_of 1171 rfl rfl, rp_ini8, rfl, by decide +kernel, ⟨by decide +kernel, by decide +kernel, by decide +kernel⟩, by decide +kernel⟩
set_option maxRecDepth 20000 in
theorem rp_MF176 : rp_MF 176 := ⟨rp_gt_of 1174 rfl rfl, rp_ini8, rfl, by decide +kernel, ⟨by decide +kernel, by decide +kernel, by decide +kernel⟩, by decide +kernel⟩
set_option maxRecDepth 20000 in
theorem rp_MF177 : rp_MF 177 := ⟨rp_gt_of 1178 rfl rfl, rp_ini8, rfl, by decide +kernel, ⟨by decide +kernel, by decide +kernel, by decide +kernel⟩, by decide +kernel⟩
set_option maxRecDepth 20000 in
theorem rp_MF178 : rp_MF 178 := ⟨rp_gt_of 1182 rfl rfl, rp_ini8, rfl, by decide +kernel, ⟨by decide +kernel, by decide +kernel, by decide +kernel⟩, by decide +kernel⟩
set_option maxRecDepth 20000 in
theorem rp_MF179 : rp_MF 179 := ⟨rp_gt_of 1186 rfl rfl, rp_ini8, rfl, by decide +kernel, ⟨by decide +kernel, by decide +kernel, by decide +kernel⟩, by decide +kernel⟩
set_option maxRecDepth 20000 in
theorem rp_MF180 : rp_MF 180 := ⟨rp_gt_of 1190 rfl rfl, rp_ini8, rfl, by decide +kernel, ⟨by decide +kernel, by decide +kernel, by decide +kernel⟩, by decide +kernel⟩
set_option maxRecDepth 20000 in
theorem rp_MF181 : rp_MF 181 := ⟨rp_gt_of 1194 rfl rfl, rp_ini8, rfl, by decide +kernel, ⟨by decide +kernel, by decide +kernel, by decide +kernel⟩, by decide +kernel⟩
set_option maxRecDepth 20000 in
theorem rp_MF182 : rp_MF 182 := ⟨rp_gt_of 1198 rfl rfl, rp_ini8, rfl, by decide +kernel, ⟨by decide +kernel, by decide +kernel, by decide +kernel⟩, by decide +kernel⟩
set_option maxRecDepth 20000 in
theorem rp_MF183 : rp_MF 183 := ⟨rp_gt_of 1202 rfl rfl, rp_ini8, rfl, by decide +kernel, ⟨by decide +kernel, by decide +kernel, by decide +kernel⟩, by decide +kernel⟩
set_option maxRecDepth 20000 in
theorem rp_MF184 : rp_MF 184 := ⟨rp_gt_of 1206 rfl rfl, rp_ini8, rfl, by decide +kernel, ⟨by decide +kernel, by decide +kernel, by decide +kernel⟩, by decide +kernel⟩
set_option maxRecDepth 20000 in
theorem rp_MF185 : rp_MF 185 := ⟨rp_gt_of 1210 rfl rfl, rp_ini8, rfl, by decide +kernel, ⟨by decide +kernel, by decide +kernel, by decide +kernel⟩, by decide +kernel⟩
set_option maxRecDepth 20000 in
theorem rp_MF186 : rp_MF 186 := ⟨rp_gt_of 1214 rfl rfl, rp_ini8, rfl, by decide +kernel, ⟨by decide +kernel, by decide +kernel, by decide +kernel⟩, by decide +kernel⟩
set_option maxRecDepth 20000 in
theorem rp_MF187 : rp_MF 187 := ⟨rp_gt_of 1218 rfl rfl, rp_ini8, rfl, by decide +kernel, ⟨by decide +kernel, by decide +kernel, by decide +kernel⟩, by decide +kernel⟩
set_option maxRecDepth 20000 in
theorem rp_MF188 : rp_MF 188 := ⟨rp_gt_of 1222 rfl rfl, rp_ini8, rfl, by decide +kernel, ⟨by decide +kernel, by decide +kernel, by decide +kernel⟩, by decide +kernel⟩
set_option maxRecDepth 20000 in
theorem rp_MF189 : rp_MF 189 := ⟨rp_gt_of 1226 rfl rfl, rp_ini8, rfl, by decide +kernel, ⟨by decide +kernel, by decide +kernel, by decide +kernel⟩, by decide +kernel⟩
set_option maxRecDepth 20000 in
theorem rp_MF190 : rp_MF 190 := ⟨rp_gt_of 1230 rfl rfl, rp_ini8, rfl, by decide +kernel, ⟨by decide +kernel, by decide +kernel, by decide +kernel⟩, by decide +kernel⟩
set_option maxRecDepth 20000 in
theorem rp_MF191 : rp_MF 191 := ⟨rp_gt_of 1234 rfl rfl, rp_ini8, rfl, by decide +kernel, ⟨by decide +kernel, by decide +kernel, by decide +kernel⟩, by decide +kernel⟩
set_option maxRecDepth 20000 in
theorem rp_MF192 : rp_MF 192 := ⟨rp_gt_of 1238 rfl rfl, rp_ini8, rfl, by decide +kernel, ⟨by decide +kernel, by decide +kernel, by decide +kernel⟩, by decide +kernel⟩
set_option maxRecDepth 20000 in
theorem rp_MF193 : rp_MF 193 := ⟨rp_gt_of 1242 rfl rfl, rp_ini8, rfl, by decide +kernel, ⟨by decide +kernel, by decide +kernel, by decide +kernel⟩, by decide +kernel⟩
set_option maxRecDepth 20000 in
theorem rp_MF194 : rp_MF 194 := ⟨rp_gt_of 1246 rfl rfl, rp_ini8, rfl, by decide +kernel, ⟨by decide +kernel, by decide +kernel, by decide +kernel⟩, by decide +kernel⟩
set_option maxRecDepth 20000 in
theorem rp_MF195 : rp_MF 195 := ⟨rp_gt_of 1250 rfl rfl, rp_ini8, rfl, by decide +kernel, ⟨by decide +kernel, by decide +kernel, by decide +kernel⟩, by decide +kernel⟩
set_option maxRecDepth 20000 in
theorem rp_MF196 : rp_MF 196 := ⟨rp_gt_of 1254 rfl rfl, rp_ini8, rfl, by decide +kernel, ⟨by decide +kernel, by decide +kernel, by decide +kernel⟩, by decide +kernel⟩
set_option maxRecDepth 20000 in
theorem rp_MF197 : rp_MF 197 := ⟨rp_gt_of 1258 rfl rfl, rp_ini8, rfl, by decide +kernel, ⟨by decide +kernel, by decide +kernel, by decide +kernel⟩, by decide +kernel⟩
set_option maxRecDepth 20000 in
theorem rp_MF198 : rp_MF 198 := ⟨rp_gt_of 1262 rfl rfl, rp_ini8, rfl, by decide +kernel, ⟨by decide +kernel, by decide +kernel, by decide +kernel⟩, by decide +kernel⟩
set_option maxRecDepth 20000 in
theorem rp_MF199 : rp_MF 199 := ⟨rp_gt_of 1266 rfl rfl, rp_ini8, rfl, by decide +kernel, ⟨by decide +kernel, by decide +kernel, by decide +kernel⟩, by decide +kernel⟩
set_option maxRecDepth 20000 in
theorem rp_MF200 : rp_MF 200 := ⟨rp_gt_of 1270 rfl rfl, rp_ini8, rfl, by decide +kernel, ⟨by decide +kernel, by decide +kernel, by decide +kernel⟩, by decide +kernel⟩
set_option maxRecDepth 20000 in
theorem rp_MF201 : rp_MF 201 := ⟨rp_gt_of 1274 rfl rfl, rp_ini8, rfl, by decide +kernel, ⟨by decide +kernel, by decide +kernel, by decide +kernel⟩, by decide +kernel⟩
set_option maxRecDepth 20000 in
theorem rp_MF202 : rp_MF 202 := ⟨rp_gt_of 1278 rfl rfl, rp_ini8, rfl, by decide +kernel, ⟨by decide +kernel, by decide +kernel, by decide +kernel⟩, by decide +kernel⟩
set_option maxRecDepth 20000 in
theorem rp_MF203 : rp_MF 203 := ⟨rp_gt_of 1282 rfl rfl, rp_ini8, rfl, by decide +kernel, ⟨by decide +kernel, by decide +kernel, by decide +kernel⟩, by decide +kernel⟩
set_option maxRecDepth 20000 in
theorem rp_MF204 : rp_MF 204 := ⟨rp_gt_of 1286 rfl rfl, rp_ini8, rfl, by decide +kernel, ⟨by decide +kernel, by decide +kernel, by decide +kernel⟩, by decide +kernel⟩
set_option maxRecDepth 20000 in
theorem rp_MF205 : rp_MF 205 := ⟨rp_gt_of 1290 rfl rfl, rp_ini8, rfl, by decide +kernel, ⟨by decide +kernel, by decide +kernel, by decide +kernel⟩, by decide +kernel⟩
set_option maxRecDepth 20000 in
theorem rp_MF206 : rp_MF 206 := ⟨rp_gt_of 1294 rfl rfl, rp_ini8, rfl, by decide +kernel, ⟨by decide +kernel, by decide +kernel, by decide +kernel⟩, by decide +kernel⟩
set_option maxRecDepth 20000 in
theorem rp_MF207 : rp_MF 207 := ⟨rp_gt_of 1298 rfl rfl, rp_ini8, rfl, by decide +kernel, ⟨by decide +kernel, by decide +kernel, by decide +kernel⟩, by decide +kernel⟩
set_option maxRecDepth 20000 in
theorem rp_MF208 : rp_MF 208 := ⟨rp_gt_of 1302 rfl rfl, rp_ini8, rfl, by decide +kernel, ⟨by decide +kernel, by decide +kernel, by decide +kernel⟩, by decide +kernel⟩
set_option maxRecDepth 20000 in
theorem rp_MF209 : rp_MF 209 := ⟨rp_gt_of 1306 rfl rfl, rp_ini8, rfl, by decide +kernel, ⟨by decide +kernel, by decide +kernel, by decide +kernel⟩, by decide +kernel⟩
set_option maxRecDepth 20000 in
theorem rp_MF210 : rp_MF 210 := ⟨rp_gt_of 1311 rfl rfl, rp_ini8, rfl, by decide +kernel, ⟨by decide +kernel, by decide +kernel, by decide +kernel⟩, by decide +kernel⟩
set_option maxRecDepth 20000 in
theorem rp_MF211 : rp_MF 211 := ⟨rp_gt_of 1315 rfl rfl, rp_ini8, rfl, by decide +kernel, ⟨by decide +kernel, by decide +kernel, by decide +kernel⟩, by decide +kernel⟩
set_option maxRecDepth 20000 in
theorem rp_MF212 : rp_MF 212 := ⟨rp_gt_of 1319 rfl rfl, rp_ini8, rfl, by decide +kernel, ⟨by decide +kernel, by decide +kernel, by decide +kernel⟩, by decide +kernel⟩
set_option maxRecDepth 20000 in
theorem rp_MF213 : rp_MF 213 := ⟨rp_gt_of 1323 rfl rfl, rp_ini8, rfl, by decide +kernel, ⟨by decide +kernel, by decide +kernel, by decide +kernel⟩, by decide +kernel⟩
set_option maxRecDepth 20000 in
theorem rp_MF214 : rp_MF 214 := ⟨rp_gt_of 1327 rfl rfl, rp_ini8, rfl, by decide +kernel, ⟨by decide +kernel, by decide +kernel, by decide +kernel⟩, by decide +kernel⟩
set_option maxRecDepth 20000 in
theorem rp_MF215 : rp_MF 215 := ⟨rp_gt_of 1331 rfl rfl, rp_ini8, rfl, by decide +kernel, ⟨by decide +kernel, by decide +kernel, by decide +kernel⟩, by decide +kernel⟩
set_option maxRecDepth 20000 in
theorem rp_MF216 : rp_MF 216 := ⟨rp_gt_of 1335 rfl rfl, rp_ini8, rfl, by decide +kernel, ⟨by decide +kernel, by decide +kernel, by decide +kernel⟩, by decide +kernel⟩
set_option maxRecDepth 20000 in
theorem rp_MF217 : rp_MF 217 := ⟨rp_gt_of 1339 rfl rfl, rp_ini8, rfl, by decide +kernel, ⟨by decide +kernel, by decide +kernel, by decide +kernel⟩, by decide +kernel⟩
set_option maxRecDepth 20000 in
theorem rp_MF218 : rp_MF 218 := ⟨rp_gt_of 1343 rfl rfl, rp_ini8, rfl, by decide +kernel, ⟨by decide +kernel, by decide +kernel, by decide +kernel⟩, by decide +kernel⟩
set_option maxRecDepth 20000 in
theorem rp_MF219 : rp_MF 219 := ⟨rp_gt_of 1347 rfl rfl, rp_ini8, rfl, by decide +kernel, ⟨by decide +kernel, by decide +kernel, by decide +kernel⟩, by decide +kernel⟩
set_option maxRecDepth 20000 in
theorem rp_MF220 : rp_MF 220 := ⟨rp_gt_of 1351 rfl rfl, rp_ini8, rfl, by decide +kernel, ⟨by decide +kernel, by decide +kernel, by decide +kernel⟩, by decide +kernel⟩
set_option maxRecDepth 20000 in
theorem rp_MF221 : rp_MF 221 := ⟨rp_gt_of 1355 rfl rfl, rp_ini8, rfl, by decide +kernel, ⟨by decide +kernel, by decide +kernel, by decide +kernel⟩, by decide +kernel⟩
set_option maxRecDepth 20000 in
theorem rp_MF222 : rp_MF 222 := ⟨rp_gt_of 1359 rfl rfl, rp_ini8, rfl, by decide +kernel, ⟨by decide +kernel, by decide +kernel, by decide +kernel⟩, by decide +kernel⟩
set_option maxRecDepth 20000 in
theorem rp_MF223 : rp_MF 223 := ⟨rp_gt_of 1363 rfl rfl, rp_ini8, rfl, by decide +kernel, ⟨by decide +kernel, by decide +kernel, by decide +kernel⟩, by decide +kernel⟩
set_option maxRecDepth 20000 in
theorem rp_MF224 : rp_MF 224 := ⟨rp_gt_of 1367 rfl rfl, rp_ini8, rfl, by decide +kernel, ⟨by decide +kernel, by decide +kernel, by decide +kernel⟩, by decide +kernel⟩
set_option maxRecDepth 20000 in
theorem rp_MF225 : rp_MF 225 := ⟨rp_gt_of 1371 rfl rfl, rp_ini8, rfl, by decide +kernel, ⟨by decide +kernel, by decide +kernel, by decide +kernel⟩, by decide +kernel⟩
set_option maxRecDepth 20000 in
theorem rp_MF226 : rp_MF 226 := ⟨rp_gt_of 1375 rfl rfl, rp_ini8, rfl, by decide +kernel, ⟨by decide +kernel, by decide +kernel, by decide +kernel⟩, by decide +kernel⟩
set_option maxRecDepth 100000 in
theorem rp_MFs : ∀ c, c < 227 → rp_MF c := by
  intro c hc
  have e : List.range 227 = [0, 1, 2, 3, 4, 5, 6, 7, 8, 9, 10, 11, 12, 13, 14, 15, 16, 17, 18, 19, 20, 21, 22, 23, 24, 25, 26, 27, 28, 29, 30, 31, 32, 33, 34, 35, 36, 37, 38, 39, 40, 41, 42, 43, 44, 45, 46, 47, 48, 49, 50, 51, 52, 53, 54, 55, 56, 57, 58, 59, 60, 61, 62, 63, 64, 65, 66, 67, 68, 69, 70, 71, 72, 73, 74, 75, 76, 77, 78, 79, 80, 81, 82, 83, 84, 85, 86, 87, 88, 89, 90, 91, 92, 93, 94, 95, 96, 97, 98, 99, 100, 101, 102, 103, 104, 105, 106, 107, 108, 109, 110, 111, 112, 113, 114, 115, 116, 117, 118, 119, 120, 121, 122, 123, 124, 125, 126, 127, 128, 129, 130, 131, 132, 133, 134, 135, 136, 137, 138, 139, 140, 141, 142, 143, 144, 145, 146, 147, 148, 149, 150, 151, 152, 153, 154, 155, 156, 157, 158, 159, 160, 161, 162, 163, 164, 165, 166, 167, 168, 169, 170, 171, 172, 173, 174, 175, 176, 177, 178, 179, 180, 181, 182, 183, 184, 185, 186, 187, 188, 189, 190, 191, 192, 193, 194, 195, 196, 197, 198, 199, 200, 201, 202, 203, 204, 205, 206, 207, 208, 209, 210, 211, 212, 213, 214, 215, 216, 217, 218, 219, 220, 221, 222, 223, 224, 225, 226] := by decide +kernel
  have h : ∀ c ∈ [0, 1, 2, 3, 4, 5, 6, 7, 8, 9, 10, 11, 12, 13, 14, 15, 16, 17, 18, 19, 20, 21, 22, 23, 24, 25, 26, 27, 28, 29, 30, 31, 32, 33, 34, 35, 36, 37, 38, 39, 40, 41, 42, 43, 44, 45, 46, 47, 48, 49, 50, 51, 52, 53, 54, 55, 56, 57, 58, 59, 60, 61, 62, 63, 64, 65, 66, 67, 68, 69, 70, 71, 72, 73, 74, 75, 76, 77, 78, 79, 80, 81, 82, 83, 84, 85, 86, 87, 88, 89, 90, 91, 92, 93, 94, 95, 96, 97, 98, 99, 100, 101, 102, 103, 104, 105, 106, 107, 108, 109, 110, 111, 112, 113, 114, 115, 116, 117, 118, 119, 120, 121, 122, 123, 124, 125, 126, 127, 128, 129, 130, 131, 132, 133, 134, 135, 136, 137, 138, 139, 140, 141, 142, 143, 144, 145, 146, 147, 148, 149, 150, 151, 152, 153, 154, 155, 156, 157, 158, 159, 160, 161, 162, 163, 164, 165, 166, 167, 168, 169, 170, 171, 172, 173, 174, 175, 176, 177, 178, 179, 180, 181, 182, 183, 184, 185, 186, 187, 188, 189, 190, 191, 192, 193, 194, 195, 196, 197, 198, 199, 200, 201, 202, 203, 204, 205, 206, 207, 208, 209, 210, 211, 212, 213, 214, 215, 216, 217, 218, 219, 220, 221, 222, 223, 224, 225, 226], rp_MF c := List.forall_mem_cons.mpr ⟨rp_MF0, List.forall_mem_cons.mpr ⟨rp_MF1, List.forall_mem_cons.mpr ⟨rp_MF2, List.forall_mem_cons.mpr ⟨rp_MF3, List.forall_mem_cons.mpr ⟨rp_MF4, List.forall_mem_cons.mpr ⟨rp_MF5, List.forall_mem_cons.mpr ⟨rp_MF6, List.forall_mem_cons.mpr ⟨rp_MF7, List.forall_mem_cons.mpr ⟨rp_MF8, List.forall_mem_cons.mpr ⟨rp_MF9, List.forall_mem_cons.mpr ⟨rp_MF10, List.forall_mem_cons.mpr ⟨rp_MF11, List.forall_mem_cons.mpr ⟨rp_MF12, List.forall_mem_cons.mpr ⟨rp_MF13, List.forall_mem_cons.mpr ⟨rp_MF14, List.forall_mem_cons.mpr ⟨rp_MF15, List.forall_mem_cons.mpr ⟨rp_MF16, List.forall_mem_cons.mpr ⟨rp_MF17, List.forall_mem_cons.mpr ⟨rp_MF18, List.forall_mem_cons.mpr ⟨rp_MF19, List.forall_mem_cons.mpr ⟨rp_MF20, List.forall_mem_cons.mpr ⟨rp_MF21, List.forall_mem_cons.mpr ⟨rp_MF22, List.forall_mem_cons.mpr ⟨rp_MF23, List.forall_mem_cons.mpr ⟨rp_MF24, List.forall_mem_cons.mpr ⟨rp_MF25, List.forall_mem_cons.mpr ⟨rp_MF26, List.forall_mem_cons.mpr ⟨rp_MF27, List.forall_mem_cons.mpr ⟨rp_MF28, List.forall_mem_cons.mpr ⟨rp_MF29, List.forall_mem_cons.mpr ⟨rp_MF30, List.forall_mem_cons.mpr ⟨rp_MF31, List.forall_mem_cons.mpr ⟨rp_MF32, List.forall_mem_cons.mpr ⟨rp_MF33, List.forall_mem_cons.mpr ⟨rp_MF34, List.forall_mem_cons.mpr ⟨rp_MF35, List.forall_mem_cons.mpr ⟨rp_MF36, List.forall_mem_cons.mpr ⟨rp_MF37, List.forall_mem_cons.mpr ⟨rp_MF38, List.forall_mem_cons.mpr ⟨rp_MF39, List.forall_mem_cons.mpr ⟨rp_MF40, List.forall_mem_cons.mpr ⟨rp_MF41, List.forall_mem_cons.mpr ⟨rp_MF42, List.forall_mem_cons.mpr ⟨rp_MF43, List.forall_mem_cons.mpr ⟨rp_MF44, List.forall_mem_cons.mpr ⟨rp_MF45, List.forall_mem_cons.mpr ⟨rp_MF46, List.forall_mem_cons.mpr ⟨rp_MF47, List.forall_mem_cons.mpr ⟨rp_MF48, List.forall_mem_cons.mpr ⟨rp_MF49, List.forall_mem_cons.mpr ⟨rp_MF50, List.forall_mem_cons.mpr ⟨rp_MF51, List.forall_mem_cons.mpr ⟨rp_MF52, List.forall_mem_cons.mpr ⟨rp_MF53, List.forall_mem_cons.mpr ⟨rp_MF54, List.forall_mem_cons.mpr ⟨rp_MF55, List.forall_mem_cons.mpr ⟨rp_MF56, List.forall_mem_cons.mpr ⟨rp_MF57, List.forall_mem_cons.mpr ⟨rp_MF58, List.forall_mem_cons.mpr ⟨rp_MF59, List.forall_mem_cons.mpr ⟨rp_MF60, List.forall_mem_cons.mpr ⟨rp_MF61, List.forall_mem_cons.mpr ⟨rp_MF62, List.forall_mem_cons.mpr ⟨rp_MF63, List.forall_mem_cons.mpr ⟨rp_MF64, List.forall_mem_cons.mpr ⟨rp_MF65, List.forall_mem_cons.mpr ⟨rp_MF66, List.forall_mem_cons.mpr ⟨rp_MF67, List.forall_mem_cons.mpr ⟨rp_MF68, List.forall_mem_cons.mpr ⟨rp_MF69, List.forall_mem_cons.mpr ⟨rp_MF70, List.forall_mem_cons.mpr ⟨rp_MF71, List.forall_mem_cons.mpr ⟨rp_MF72, List.forall_mem_cons.mpr ⟨rp_MF73, List.forall_mem_cons.mpr ⟨rp_MF74, List.forall_mem_cons.mpr ⟨rp_MF75, List.forall_mem_cons.mpr ⟨rp_MF76, List.forall_mem_cons.mpr ⟨rp_MF77, List.forall_mem_cons.mpr ⟨rp_MF78, List.forall_mem_cons.mpr ⟨rp_MF79, List.forall_mem_cons.mpr ⟨rp_MF80, List.forall_mem_cons.mpr ⟨rp_MF81, List.forall_mem_cons.mpr ⟨rp_MF82, List.forall_mem_cons.mpr ⟨rp_MF83, List.forall_mem_cons.mpr ⟨rp_MF84, List.forall_mem_cons.mpr ⟨rp_MF85, List.forall_mem_cons.mpr ⟨rp_MF86, List.forall_mem_cons.mpr ⟨rp_MF87, List.forall_mem_cons.mpr ⟨rp_MF88, List.forall_mem_cons.mpr ⟨rp_MF89, List.forall_mem_cons.mpr ⟨rp_MF90, List.forall_mem_cons.mpr ⟨rp_MF91, List.forall_mem_cons.mpr ⟨rp_MF92, List.forall_mem_cons.mpr ⟨rp_MF93, List.forall_mem_cons.mpr ⟨rp_MF94, List.forall_mem_cons.mpr ⟨rp_MF95, List.forall_mem_cons.mpr ⟨rp_MF96, List.forall_mem_cons.mpr ⟨rp_MF97, List.forall_mem_cons.mpr ⟨rp_MF98, List.forall_mem_cons.mpr ⟨rp_MF99, List.forall_mem_cons.mpr ⟨rp_MF100, List.forall_mem_cons.mpr ⟨rp_MF101, List.forall_mem_cons.mpr ⟨rp_MF102, List.forall_mem_cons.mpr ⟨rp_MF103, List.forall_mem_cons.mpr ⟨rp_MF104, List.forall_mem_cons.mpr ⟨rp_MF105, List.forall_mem_cons.mpr ⟨rp_MF106, List.forall_mem_cons.mpr ⟨rp_MF107, List.forall_mem_cons.mpr ⟨rp_MF108, List.forall_mem_cons.mpr ⟨rp_MF109, List.forall_mem_cons.mpr ⟨rp_MF110, List.forall_mem_cons.mpr ⟨rp_MF111, List.forall_mem_cons.mpr ⟨rp_MF112, List.forall_mem_cons.mpr ⟨rp_MF113, List.forall_mem_cons.mpr ⟨rp_MF114, List.forall_mem_cons.mpr ⟨rp_MF115, List.forall_mem_cons.mpr ⟨rp_MF116, List.forall_mem_cons.mpr ⟨rp_MF117, List.forall_mem_cons.mpr ⟨rp_MF118, List.forall_mem_cons.mpr ⟨rp_MF119, List.forall_mem_cons.mpr ⟨rp_MF120, List.forall_mem_cons.mpr ⟨rp_MF121, List.forall_mem_cons.mpr ⟨rp_MF122, List.forall_mem_cons.mpr ⟨rp_MF123, List.forall_mem_cons.mpr ⟨rp_MF124, List.forall_mem_cons.mpr ⟨rp_MF125, List.forall_mem_cons.mpr ⟨rp_MF126, List.forall_mem_cons.mpr ⟨rp_MF127, List.forall_mem_cons.mpr ⟨rp_MF128, List.forall_mem_cons.mpr ⟨rp_MF129, List.forall_mem_cons.mpr ⟨rp_MF130, List.forall_mem_cons.mpr ⟨rp_MF131, List.forall_mem_cons.mpr ⟨rp_MF132, List.forall_mem_cons.mpr ⟨rp_MF133, List.forall_mem_cons.mpr ⟨rp_MF134, List.forall_mem_cons.mpr ⟨rp_MF135, List.forall_mem_cons.mpr ⟨rp_MF136, List.forall_mem_cons.mpr ⟨rp_MF137, List.forall_mem_cons.mpr ⟨rp_MF138, List.forall_mem_cons.mpr ⟨rp_MF139, List.forall_mem_cons.mpr ⟨rp_MF140, List.forall_mem_cons.mpr ⟨rp_MF141, List.forall_mem_cons.mpr ⟨rp_MF142, List.forall_mem_cons.mpr ⟨rp_MF143, List.forall_mem_cons.mpr ⟨rp_MF144, List.forall_mem_cons.mpr ⟨rp_MF145, List.forall_mem_cons.mpr ⟨rp_MF146, List.forall_mem_cons.mpr ⟨rp_MF147, List.forall_mem_cons.mpr ⟨rp_MF148, List.forall_mem_cons.mpr ⟨rp_MF149, List.forall_mem_cons.mpr ⟨rp_MF150, List.forall_mem_cons.mpr ⟨rp_MF151, List.forall_mem_cons.mpr ⟨rp_MF152, List.forall_mem_cons.mpr ⟨rp_MF153, List.forall_mem_cons.mpr ⟨rp_MF154, List.forall_mem_cons.mpr ⟨rp_MF155, List.forall_mem_cons.mpr ⟨rp_MF156, List.forall_mem_cons.mpr ⟨rp_MF157, List.forall_mem_cons.mpr ⟨rp_MF158, List.forall_mem_cons.mpr ⟨rp_MF159, List.forall_mem_cons.mpr ⟨rp_MF160, List.forall_mem_cons.mpr ⟨rp_MF161, List.forall_mem_cons.mpr ⟨rp_MF162, List.forall_mem_cons.mpr ⟨rp_MF163, List.forall_mem_cons.mpr ⟨rp_MF164, List.forall_mem_cons.mpr ⟨rp_MF165, List.forall_mem_cons.mpr ⟨rp_MF166, List.forall_mem_cons.mpr ⟨rp_MF167, List.forall_mem_cons.mpr ⟨rp_MF168, List.forall_mem_cons.mpr ⟨rp_MF169, List.forall_mem_cons.mpr ⟨rp_MF170, List.forall_mem_cons.mpr ⟨rp_MF171, List.forall_mem_cons.mpr ⟨rp_MF172, List.forall_mem_cons.mpr ⟨rp_MF173, List.forall_mem_cons.mpr ⟨rp_MF174, List.forall_mem_cons.mpr ⟨rp_MF175, List.forall_mem_cons.mpr ⟨rp_MF176, List.forall_mem_cons.mpr ⟨rp_MF177, List.forall_mem_cons.mpr ⟨rp_MF178, List.forall_mem_cons.mpr ⟨rp_MF179, List.forall_mem_cons.mpr ⟨rp_MF180, List.forall_mem_cons.mpr ⟨rp_MF181, List.forall_mem_cons.mpr ⟨rp_MF182, List.forall_mem_cons.mpr ⟨rp_MF183, List.forall_mem_cons.mpr ⟨rp_MF184, List.forall_mem_cons.mpr ⟨rp_MF185, List.forall_mem_cons.mpr ⟨rp_MF186, List.forall_mem_cons.mpr ⟨rp_MF187, List.forall_mem_cons.mpr ⟨rp_MF188, List.forall_mem_cons.mpr ⟨rp_MF189, List.forall_mem_cons.mpr ⟨rp_MF190, List.forall_mem_cons.mpr ⟨rp_MF191, List.forall_mem_cons.mpr ⟨rp_MF192, List.forall_mem_cons.mpr ⟨rp_MF193, List.forall_mem_cons.mpr ⟨rp_MF194, List.forall_mem_cons.mpr ⟨rp_MF195, List.forall_mem_cons.mpr ⟨rp_MF196, List.forall_mem_cons.mpr ⟨rp_MF197, List.forall_mem_cons.mpr ⟨rp_MF198, List.forall_mem_cons.mpr ⟨rp_MF199, List.forall_mem_cons.mpr ⟨rp_MF200, List.forall_mem_cons.mpr ⟨rp_MF201, List.forall_mem_cons.mpr ⟨rp_MF202, List.forall_mem_cons.mpr ⟨rp_MF203, List.forall_mem_cons.mpr ⟨rp_MF204, List.forall_mem_cons.mpr ⟨rp_MF205, List.forall_mem_cons.mpr ⟨rp_MF206, List.forall_mem_cons.mpr ⟨rp_MF207, List.forall_mem_cons.mpr ⟨rp_MF208, List.forall_mem_cons.mpr ⟨rp_MF209, List.forall_mem_cons.mpr ⟨rp_MF210, List.forall_mem_cons.mpr ⟨rp_MF211, List.forall_mem_cons.mpr ⟨rp_MF212, List.forall_mem_cons.mpr ⟨rp_MF213, List.forall_mem_cons.mpr ⟨rp_MF214, List.forall_mem_cons.mpr ⟨rp_MF215, List.forall_mem_cons.mpr ⟨rp_MF216, List.forall_mem_cons.mpr ⟨rp_MF217, List.forall_mem_cons.mpr ⟨rp_MF218, List.forall_mem_cons.mpr ⟨rp_MF219, List.forall_mem_cons.mpr ⟨rp_MF220, List.forall_mem_cons.mpr ⟨rp_MF221, List.forall_mem_cons.mpr ⟨rp_MF222, List.forall_mem_cons.mpr ⟨rp_MF223, List.forall_mem_cons.mpr ⟨rp_MF224, List.forall_mem_cons.mpr ⟨rp_MF225, List.forall_mem_cons.mpr ⟨rp_MF226, fun _ h => absurd h List.not_mem_nil⟩⟩⟩⟩⟩⟩⟩⟩⟩⟩⟩⟩⟩⟩⟩⟩⟩⟩⟩⟩⟩⟩⟩⟩⟩⟩⟩⟩⟩⟩⟩⟩⟩⟩⟩⟩⟩⟩⟩⟩⟩⟩⟩⟩⟩⟩⟩⟩⟩⟩⟩⟩⟩⟩⟩⟩⟩⟩⟩⟩⟩⟩⟩⟩⟩⟩⟩⟩⟩⟩⟩⟩⟩⟩⟩⟩⟩⟩⟩⟩⟩⟩⟩⟩⟩⟩⟩⟩⟩⟩⟩⟩⟩⟩⟩⟩⟩⟩⟩⟩⟩⟩⟩⟩⟩⟩⟩⟩⟩⟩⟩⟩⟩⟩⟩⟩⟩⟩⟩⟩⟩⟩⟩⟩⟩⟩⟩⟩⟩⟩⟩⟩⟩⟩⟩⟩⟩⟩⟩⟩⟩⟩⟩⟩⟩⟩⟩⟩⟩⟩⟩⟩⟩⟩⟩⟩⟩⟩⟩⟩⟩⟩⟩⟩⟩⟩⟩⟩⟩⟩⟩⟩⟩⟩⟩⟩⟩⟩⟩⟩⟩⟩⟩⟩⟩⟩⟩⟩⟩⟩⟩⟩⟩⟩⟩⟩⟩⟩⟩⟩⟩⟩⟩⟩⟩⟩⟩⟩⟩⟩⟩⟩⟩⟩⟩⟩⟩⟩⟩⟩⟩⟩⟩⟩⟩⟩⟩
  exact h c (e ▸ List.mem_range.mpr hc)
def rp_ct : List (Nat × Nat × Nat × Nat × Nat × Nat) := [(7, 3, 5000, 5, 98, 0), (7, 11, 1, 3, 103, 104), (7, 21, 7, 4, 0, 187), (7, 28, 8, 3, 214, 215), (7, 35, 10, 4, 1, 230), (7, 42, 11, 4, 2, 270), (7, 49, 12, 4, 3, 283), (7, 54, 14, 1, 334, 335), (7, 58, 16, 1, 340, 341), (7, 61, 15, 1, 337, 338), (7, 69, 4, 0, 343, 135), (7, 75, 3, 0, 344, 131), (7, 79, 5, 0, 345, 139), (7, 83, 17, 1, 346, 347), (7, 87, 18, 0, 349, 350), (7, 91, 25, 0, 378, 379), (7, 94, 26, 1, 382, 383), (7, 97, 27, 1, 385, 386), (7, 103, 20, 0, 388, 358), (7, 111, 31, 0, 401, 402), (7, 114, 32, 0, 405, 406), (7, 118, 34, 0, 414, 415), (7, 121, 54, 0, 554, 555), (7, 124, 55, 1, 558, 559), (7, 130, 51, 0, 561, 542), (7, 134, 56, 0, 562, 563), (7, 137, 58, 0, 571, 572), (7, 140, 60, 1, 580, 581), (7, 146, 61, 0, 583, 584), (7, 150, 64, 0, 595, 596), (7, 153, 66, 0, 604, 605), (7, 156, 67, 0, 608, 609), (7, 159, 68, 0, 612, 613), (7, 162, 70, 0, 621, 622), (7, 165, 72, 0, 629, 630), (7, 172, 77, 0, 650, 651), (7, 175, 81, 0, 666, 667), (7, 179, 19, 0, 672, 354), (7, 180, 75, 0, 677, 643), (7, 183, 69, 0, 682, 617), (7, 189, 87, 0, 695, 696), (7, 193, 100, 0, 752, 753), (7, 196, 101, 0, 756, 757), (7, 199, 102, 0, 760, 761), (7, 202, 103, 0, 764, 765), (7, 205, 104, 0, 768, 769), (7, 208, 105, 0, 772, 773), (7, 211, 88, 0, 780, 700), (7, 215, 97, 0, 781, 741), (7, 218, 108, 0, 786, 787), (7, 222, 109, 0, 792, 793), (7, 229, 114, 0, 815, 816), (7, 232, 117, 0, 830, 832), (7, 238, 22, 0, 838, 367), (7, 242, 119, 0, 839, 840), (7, 245, 121, 0, 847, 848), (7, 248, 123, 0, 855, 856), (7, 251, 131, 0, 891, 892), (7, 254, 132, 0, 895, 896), (7, 257, 133, 0, 899, 900), (7, 260, 134, 0, 903, 904), (7, 263, 135, 0, 911, 908), (7, 266, 137, 0, 916, 917), (7, 269, 140, 0, 929, 930), (7, 272, 142, 0, 937, 938), (0, 3, 5000, 5, 106, 0), (0, 11, 2, 3, 109, 110), (0, 38, 3, 0, 130, 131), (0, 42, 143, 0, 941, 942), (0, 50, 20, 0, 575, 358), (0, 54, 62, 2, 4, 589), (0, 57, 5, 0, 587, 139), (0, 61, 69, 0, 616, 617), (0, 65, 64, 0, 620, 596), (0, 69, 73, 0, 633, 634), (0, 73, 74, 0, 637, 638), (0, 77, 70, 0, 641, 622), (0, 80, 19, 0, 599, 354), (0, 83, 65, 0, 600, 602), (0, 87, 75, 0, 642, 643), (0, 90, 78, 0, 654, 655), (1, 3, 5000, 5, 189, 0), (1, 27, 35, 0, 418, 420), (1, 30, 37, 0, 426, 428), (1, 36, 40, 0, 440, 442), (1, 40, 44, 0, 513, 515), (1, 44, 36, 0, 422, 424), (1, 54, 41, 0, 444, 446), (1, 58, 45, 1, 517, 518), (1, 61, 46, 0, 520, 522), (1, 64, 49, 0, 534, 536), (1, 67, 52, 0, 545, 547), (1, 72, 48, 0, 530, 532), (1, 76, 53, 0, 550, 552), (1, 79, 50, 1, 538, 539), (1, 83, 47, 0, 524, 526), (1, 89, 51, 0, 541, 542), (1, 92, 43, 0, 461, 463), (1, 95, 38, 0, 430, 432), (1, 98, 42, 1, 448, 449), (1, 122, 39, 1, 437, 438), (1, 125, 15, 2, 5, 338), (1, 129, 5003, 5, 465, 0), (1, 134, 5004, 5, 475, 0), (1, 138, 5002, 5, 434, 0), (2, 3, 5000, 5, 285, 0), (2, 24, 124, 0, 859, 861), (2, 41, 126, 0, 869, 871), (2, 45, 129, 0, 880, 882), (2, 49, 19, 0, 863, 354), (2, 55, 20, 0, 864, 358), (2, 59, 125, 0, 865, 867), (2, 63, 127, 1, 873, 874), (2, 67, 128, 0, 876, 878), (2, 71, 22, 0, 884, 367), (2, 77, 119, 0, 885, 840), (2, 83, 121, 0, 886, 848), (2, 86, 130, 0, 887, 889), (2, 89, 135, 0, 907, 908), (2, 92, 134, 0, 920, 904), (3, 3, 5000, 5, 232, 0), (3, 34, 20, 0, 703, 358), (3, 52, 19, 0, 704, 354), (3, 55, 89, 0, 705, 707), (3, 62, 78, 0, 709, 655), (3, 66, 73, 0, 710, 634), (3, 70, 90, 0, 711, 713), (3, 74, 74, 0, 731, 638), (3, 78, 91, 0, 715, 717), (3, 81, 92, 0, 719, 721), (3, 84, 93, 0, 723, 725), (3, 87, 94, 0, 727, 729), (3, 91, 96, 0, 736, 738), (3, 95, 98, 0, 744, 746), (3, 98, 99, 0, 748, 750), (3, 101, 88, 0, 699, 700), (3, 114, 95, 0, 732, 733), (3, 118, 97, 0, 740, 741), (4, 3, 5000, 5, 272, 0), (4, 11, 2, 3, 274, 110), (4, 20, 88, 0, 790, 700), (4, 26, 95, 0, 791, 733), (4, 30, 110, 0, 796, 797), (4, 33, 3, 0, 800, 131), (4, 37, 5, 0, 801, 139), (4, 41, 97, 0, 802, 741), (4, 45, 115, 0, 819, 821), (4, 49, 19, 0, 825, 354), (4, 52, 25, 0, 823, 379), (4, 55, 20, 0, 824, 358), (5, 1, 5000, 5, 112, 0), (5, 7, 5001, 5, 113, 0), (5, 29, 6, 0, 142, 144), (5, 32, 4, 0, 134, 135), (5, 36, 5, 0, 138, 139), (5, 40, 25, 0, 670, 379), (5, 44, 20, 0, 671, 358), (5, 47, 5002, 5, 945, 0), (6, 3, 5000, 5, 217, 0), (6, 15, 9, 0, 218, 220), (6, 18, 19, 0, 353, 354), (6, 24, 20, 0, 357, 358), (6, 28, 21, 0, 361, 363), (6, 32, 22, 0, 366, 367), (6, 36, 23, 0, 370, 372), (6, 40, 14, 2, 6, 335), (9, 9, 0, 3, 95, 96), (9, 12, 145, 3, 952, 953), (9, 13, 13, 0, 330, 331), (9, 17, 146, 0, 1057, 1058), (9, 18, 24, 0, 374, 375), (9, 22, 149, 0, 1067, 1068), (9, 23, 28, 0, 389, 390), (9, 27, 150, 0, 1071, 1072), (9, 28, 29, 0, 393, 394), (9, 32, 153, 0, 1083, 1084), (9, 35, 30, 0, 397, 398), (9, 39, 154, 0, 1087, 1088), (9, 40, 33, 0, 410, 411), (9, 43, 155, 0, 1092, 1093), (9, 44, 57, 0, 567, 568), (9, 47, 167, 0, 1137, 1138), (9, 48, 59, 0, 576, 577), (9, 52, 169, 0, 1145, 1146), (9, 53, 63, 0, 591, 592), (9, 56, 188, 0, 1219, 1220), (9, 57, 71, 0, 625, 626), (9, 61, 171, 0, 1152, 1153), (9, 62, 76, 0, 646, 647), (9, 65, 182, 0, 1195, 1196), (9, 66, 79, 0, 658, 659), (9, 69, 184, 0, 1203, 1204), (9, 70, 80, 0, 662, 663), (9, 73, 186, 0, 1211, 1212), (9, 74, 82, 0, 673, 674), (9, 77, 187, 0, 1215, 1216), (9, 78, 83, 0, 678, 679), (9, 81, 190, 0, 1227, 1228), (9, 82, 84, 0, 683, 684), (9, 85, 191, 0, 1231, 1232), (9, 86, 85, 0, 687, 688), (9, 90, 192, 0, 1235, 1236), (9, 91, 86, 0, 691, 692), (9, 94, 199, 0, 1263, 1264), (9, 95, 106, 0, 776, 777), (9, 98, 193, 0, 1239, 1240), (9, 99, 107, 0, 782, 783), (9, 102, 201, 0, 1271, 1272), (9, 103, 111, 0, 803, 804), (9, 106, 204, 0, 1283, 1284), (9, 107, 112, 0, 807, 808), (9, 110, 205, 0, 1287, 1288), (9, 111, 113, 0, 811, 812), (9, 114, 206, 0, 1291, 1292), (9, 115, 116, 0, 826, 827), (9, 119, 211, 0, 1312, 1313), (9, 120, 118, 0, 834, 835), (9, 123, 207, 0, 1295, 1296), (9, 124, 120, 0, 843, 844), (9, 127, 210, 0, 1308, 1309), (9, 128, 122, 0, 851, 852), (9, 131, 212, 0, 1316, 1317), (9, 132, 136, 0, 912, 913), (9, 135, 218, 0, 1340, 1341), (9, 136, 138, 0, 921, 922), (9, 139, 221, 0, 1352, 1353), (9, 140, 139, 0, 925, 926), (9, 143, 222, 0, 1356, 1357), (9, 144, 141, 0, 933, 934), (9, 147, 223, 0, 1360, 1361), (9, 148, 144, 0, 946, 947), (9, 151, 226, 0, 1372, 1373), (8, 1, 5000, 5, 955, 0), (8, 68, 148, 1, 1064, 1065), (8, 72, 147, 1, 1061, 1062), (8, 76, 151, 0, 1075, 1077), (8, 79, 152, 0, 1079, 1081), (8, 100, 158, 1, 1103, 1104), (8, 103, 159, 1, 1106, 1107), (8, 109, 160, 0, 1109, 1111), (8, 113, 157, 0, 1099, 1101), (8, 116, 163, 0, 1121, 1123), (8, 119, 164, 0, 1125, 1127), (8, 123, 162, 0, 1117, 1119), (8, 130, 165, 0, 1129, 1131), (8, 134, 166, 0, 1133, 1135), (8, 138, 156, 1, 1096, 1097), (8, 141, 161, 0, 1113, 1115), (8, 144, 168, 0, 1141, 1143), (8, 147, 170, 1, 1149, 1150), (8, 150, 176, 1, 1172, 1173), (8, 154, 177, 0, 1175, 1177), (8, 158, 179, 0, 1183, 1185), (8, 161, 178, 0, 1179, 1181), (8, 164, 175, 0, 1168, 1170), (8, 168, 180, 0, 1187, 1189), (8, 171, 181, 0, 1191, 1193), (8, 174, 173, 0, 1160, 1162), (8, 177, 172, 0, 1156, 1158), (8, 180, 174, 0, 1164, 1166), (8, 183, 183, 0, 1199, 1201), (8, 187, 185, 0, 1207, 1209), (8, 190, 189, 0, 1223, 1225), (8, 193, 196, 0, 1251, 1253), (8, 196, 197, 0, 1255, 1257), (8, 208, 195, 0, 1247, 1249), (8, 211, 198, 0, 1259, 1261), (8, 215, 194, 0, 1243, 1245), (8, 218, 200, 0, 1267, 1269), (8, 224, 203, 0, 1279, 1281), (8, 228, 202, 0, 1275, 1277), (8, 235, 209, 0, 1303, 1305), (8, 238, 208, 0, 1299, 1301), (8, 242, 216, 0, 1332, 1334), (8, 245, 215, 0, 1328, 1330), (8, 248, 217, 0, 1336, 1338), (8, 251, 213, 0, 1320, 1322), (8, 254, 214, 0, 1324, 1326), (8, 257, 220, 0, 1348, 1350), (8, 260, 219, 0, 1344, 1346), (8, 267, 225, 0, 1368, 1370), (8, 271, 224, 0, 1364, 1366)]
def rp_libs : List MethodName := [objectInit, Lib.Math.max.name, Lib.Math.min.name, ⟨"java/lang/String", "length", "()I"⟩, ⟨"java/lang/String", "charAt", "(I)C"⟩]
def rp_ctb (q : Nat × Nat × Nat × Nat × Nat × Nat) : Bool := match q.2.2.2.1 with
  | 0 => decide (lw_tbl[q.2.2.2.2.1]? = some (.methodLink (rp_cn q.1) q.2.1 (rp_mt q.2.2.1).1)) && (decide (lw_tbl[q.2.2.2.2.2]? = some (.instanceMethod (rp_mt q.2.2.1).1)) && (decide (lw_tbl[(rp_mq.getD q.2.2.1 (0, 0, 0, 0)).2.2.1]? = some (.selects (rp_mt q.2.2.1).1.cls (rp_mt q.2.2.1).1 (rp_mt q.2.2.1).1)) && decide (q.2.2.1 < 227)))
  | 1 => decide (lw_tbl[q.2.2.2.2.1]? = some (.methodLink (rp_cn q.1) q.2.1 (rp_mt q.2.2.1).1)) && (decide (lw_tbl[q.2.2.2.2.2]? = some (.static (rp_mt q.2.2.1).1)) && decide (q.2.2.1 < 227))
  | 2 => decide (lw_tbl[q.2.2.2.2.2]? = some (.static (rp_mt q.2.2.1).1)) && decide (q.2.2.1 < 227)
  | 3 => decide (lw_tbl[q.2.2.2.2.1]? = some (.methodLink (rp_cn q.1) q.2.1 (rp_mt q.2.2.1).1)) && (decide (lw_tbl[q.2.2.2.2.2]? = some (.instanceMethod (rp_mt q.2.2.1).1)) && (decide ((rp_mt q.2.2.1).1.name = "<init>") && (decide ((rp_mt q.2.2.1).2.2.2.1 = none) && decide (q.2.2.1 < 227))))
  | 4 => decide (lw_tbl[q.2.2.2.2.2]? = some (.instanceMethod (rp_mt q.2.2.1).1)) && (decide ((rp_mt q.2.2.1).1.name = "<init>") && (decide ((rp_mt q.2.2.1).2.2.2.1 = none) && decide (q.2.2.1 < 227)))
  | 5 => decide (lw_tbl[q.2.2.2.2.1]? = some (.methodLink (rp_cn q.1) q.2.1 (rp_libs.getD (q.2.2.1 - 5000) objectInit))) && (decide (5000 ≤ q.2.2.1) && decide (q.2.2.1 < 5005))
  | _ => false
theorem rp_ct_ok : rp_ct.all rp_ctb = true := by decide +kernel
/-- links within the nest: (class, index, method, host) -/
def rp_ns : List (Nat × Nat × Nat × String) := [(7, 21, 7, "RailPasses"), (7, 35, 10, "RailPasses"), (7, 42, 11, "RailPasses"), (7, 49, 12, "RailPasses"), (0, 54, 62, "RailPasses"), (1, 125, 15, "RailPasses"), (6, 40, 14, "RailPasses")]
theorem rp_ns_ok : ∀ q ∈ rp_ns, Cond.methodLinkNest (rp_cn q.1) q.2.1 (rp_mt q.2.2.1).1 q.2.2.2 ∈ lw_tbl := List.forall_mem_cons.mpr ⟨List.mem_of_getElem? (i := 186) (by decide +kernel), List.forall_mem_cons.mpr ⟨List.mem_of_getElem? (i := 229) (by decide +kernel), List.forall_mem_cons.mpr ⟨List.mem_of_getElem? (i := 269) (by decide +kernel), List.forall_mem_cons.mpr ⟨List.mem_of_getElem? (i := 282) (by decide +kernel), List.forall_mem_cons.mpr ⟨List.mem_of_getElem? (i := 588) (by decide +kernel), List.forall_mem_cons.mpr ⟨List.mem_of_getElem? (i := 528) (by decide +kernel), List.forall_mem_cons.mpr ⟨List.mem_of_getElem? (i := 365) (by decide +kernel), fun _ h => absurd h List.not_mem_nil⟩⟩⟩⟩⟩⟩⟩
theorem rp_nsct : ∀ q ∈ rp_ct, (q.2.2.2.1 = 2 ∨ q.2.2.2.1 = 4) → ∃ host, rp_ns[q.2.2.2.2.1]? = some (q.1, q.2.1, q.2.2.1, host) := by
  have h : ∀ q ∈ rp_ct, ((rp_ns[q.2.2.2.2.1]?).map (fun z => (z.1, z.2.1, z.2.2.1)) = some (q.1, q.2.1, q.2.2.1)) ∨ ¬ (q.2.2.2.1 = 2 ∨ q.2.2.2.1 = 4) := by decide +kernel
  intro q hq hk
  rcases h q hq with h | h
  · obtain ⟨z, h1, h2⟩ := Option.map_eq_some_iff.mp h
    obtain ⟨a, b, c, d⟩ := z
    cases h2
    exact ⟨d, h1⟩
  · exact absurd hk h
/-- an instruction's row is as the class files have it -/
def rp_tso (pc : Nat) (lo : Int) (offs : List Int) (l : List (Int32 × Nat)) : Bool := match offs, l with
  | [], [] => true
  | o :: offs, q :: l => decide (q.1.toInt = lo) && (decide ((pc : Int) + o = (q.2 : Int)) && rp_tso pc (lo + 1) offs l)
  | _, _ => false
def rp_lso (pc : Nat) (ps : List (Int × Int)) (l : List (Int32 × Nat)) : Bool := match ps, l with
  | [], [] => true
  | o :: ps, q :: l => decide (q.1.toInt = o.1) && (decide ((pc : Int) + o.2 = (q.2 : Int)) && rp_lso pc ps l)
  | _, _ => false
def rp_has4 (a b c d : Nat) : Bool := rp_ft.any fun q => Nat.beq q.1 a && (Nat.beq q.2.1 b && (Nat.beq q.2.2.1 c && Nat.beq q.2.2.2.1 d))
def rp_hasN (a b c : Nat) : Bool := rp_nt.any fun q => Nat.beq q.1 a && (Nat.beq q.2.1 b && Nat.beq q.2.2.1 c)
def rp_hasC (a b c : Nat) (ks : Nat → Bool) : Bool := rp_ct.any fun q => Nat.beq q.1 a && (Nat.beq q.2.1 b && (Nat.beq q.2.2.1 c && ks q.2.2.2.1))
/-- the room of a call, by the tables -/
def rp_rok (j c : Nat) : Bool := Nat.ble ((rp_mt c).2.2.2.2.2.1 + 1) (rp_mt j).2.2.2.2.2.1 && Nat.ble (8 + ((rp_mt c).2.2.1 + 11) + (rp_mt c).2.2.2.2.2.2.1) (rp_mt j).2.2.2.2.2.2.1
def rp_lok (j f w : Nat) : Bool := Nat.ble f (rp_mt j).2.2.2.2.2.1 && Nat.ble w (rp_mt j).2.2.2.2.2.2.1
def rp_putok (j : Nat) (i : rp_In) : Bool := bif i.2.2.2.isEmpty then (!(rp_TT i.1 i.2.1).2.2.2 && (match rp_ty i.1 i.2.1, i.2.2.1 with
    | .int, .null => true
    | .boolean, .int _ => true
    | _, _ => false))
  else ((rp_TT i.1 i.2.1).2.2.2 && (decide ((rp_mt j).1.name = "<init>") && (Nat.beq i.1 (rp_mt j).2.2.2.2.1 && (match rp_ty i.1 i.2.1, i.2.2.1 with
    | .int, .long _ => true
    | .object _, .ref _ => true
    | .array _, .ref _ => true
    | _, _ => false))))
def rp_okE (j : Nat) (e : rp_En) : Bool := match e with
  | (pc, I, n, i) => match I with
    | .iconst k => Nat.beq n 1 && decide (i.2.2.1 = .int (Int32.ofInt k))
    | .bipush k => Nat.beq n 2 && decide (i.2.2.1 = .int (Int8.ofInt k).toInt32)
    | .sipush k => Nat.beq n 3 && decide (i.2.2.1 = .int (Int16.ofInt k).toInt32)
    | .ldc x => Nat.beq n 2 && (match i.2.2.1 with
      | .int v => rp_kti.any fun q => Nat.beq q.1 (rp_mt j).2.2.2.2.1 && (Nat.beq q.2.1 x && decide (q.2.2.1 = v))
      | .ref a => Nat.beq (rp_mt j).2.2.2.2.1 1 && (Nat.ble 1000 a && (Nat.blt a 1012 && decide (rp_si[a - 1000]? = some x)))
      | _ => false)
    | .ldc2_w x => Nat.beq n 3 && (match i.2.2.1 with
      | .long v => rp_ktl.any fun q => Nat.beq q.1 (rp_mt j).2.2.2.2.1 && (Nat.beq q.2.1 x && decide (q.2.2.1 = v))
      | _ => false)
    | .iload_n k => Nat.beq n 1 && Nat.beq i.1 k.val
    | .lload_n k => Nat.beq n 1 && Nat.beq i.1 k.val
    | .aload_n k => Nat.beq n 1 && Nat.beq i.1 k.val
    | .istore_n k => Nat.beq n 1 && Nat.beq i.1 k.val
    | .astore_n k => Nat.beq n 1 && Nat.beq i.1 k.val
    | .iload k => Nat.beq n 2 && Nat.beq i.1 k
    | .aload k => Nat.beq n 2 && Nat.beq i.1 k
    | .istore k => Nat.beq n 2 && Nat.beq i.1 k
    | .iinc k c => Nat.beq n 3 && (Nat.beq i.1 k && decide (i.2.2.1 = .int (Int32.ofInt c)))
    | .iadd => Nat.beq n 1
    | .isub => Nat.beq n 1
    | .imul => Nat.beq n 1
    | .iand => Nat.beq n 1
    | .ior => Nat.beq n 1
    | .ishl => Nat.beq n 1
    | .ishr => Nat.beq n 1
    | .idiv => Nat.beq n 1
    | .irem => Nat.beq n 1
    | .i2l => Nat.beq n 1
    | .l2i => Nat.beq n 1
    | .land => Nat.beq n 1
    | .lor => Nat.beq n 1
    | .lshl => Nat.beq n 1
    | .lushr => Nat.beq n 1
    | .dup => Nat.beq n 1
    | .dup2 => Nat.beq n 1
    | .pop => Nat.beq n 1
    | .ifCond _ off => Nat.beq n 3 && decide ((pc : Int) + off = (i.1 : Int))
    | .if_icmp _ off => Nat.beq n 3 && decide ((pc : Int) + off = (i.1 : Int))
    | .goto off => Nat.beq n 3 && decide ((pc : Int) + off = (i.1 : Int))
    | .tableswitch d lo hi offs => decide ((pc : Int) + d = (i.1 : Int)) && (decide (lo + (offs.size : Int) = hi + 1) && rp_tso pc lo offs.toList i.2.2.2)
    | .lookupswitch d ps => decide ((pc : Int) + d = (i.1 : Int)) && ((ps.toList.zip (ps.toList.drop 1)).all (fun (a, next) => a.1 < next.1) && rp_lso pc ps.toList i.2.2.2)
    | .getfield x => Nat.beq n 3 && rp_has4 (rp_mt j).2.2.2.2.1 x i.1 i.2.1
    | .putfield x => Nat.beq n 3 && (rp_has4 (rp_mt j).2.2.2.2.1 x i.1 i.2.1 && rp_putok j i)
    | .iaload => Nat.beq n 1
    | .baload => Nat.beq n 1
    | .iastore => Nat.beq n 1
    | .bastore => Nat.beq n 1
    | .arraylength => Nat.beq n 1
    | .new x => Nat.beq n 3 && rp_hasN (rp_mt j).2.2.2.2.1 x i.1
    | .newarray _ => Nat.beq n 2
    | .ireturn => Nat.beq n 1
    | .areturn => Nat.beq n 1
    | .return_ => Nat.beq n 1
    | .invokevirtual x => Nat.beq n 3 && (bif Nat.ble 5000 i.1 then rp_hasC (rp_mt j).2.2.2.2.1 x i.1 (Nat.beq 5) && (Nat.ble 5003 i.1 && (rp_lok j 4 85 && Nat.beq i.2.1 (i.1 - 5002)))
      else (rp_hasC (rp_mt j).2.2.2.2.1 x i.1 (Nat.beq 0) && (rp_rok j i.1 && Nat.beq i.2.1 ((rp_mq.getD i.1 (0, 0, 0, 0)).2.2.2 + 1))))
    | .invokestatic x => Nat.beq n 3 && (bif Nat.ble 5000 i.1 then rp_hasC (rp_mt j).2.2.2.2.1 x i.1 (Nat.beq 5) && ((Nat.beq i.1 5001 || Nat.beq i.1 5002) && (rp_lok j 1 21 && Nat.beq i.2.1 2))
      else (rp_hasC (rp_mt j).2.2.2.2.1 x i.1 (fun k => Nat.beq k 1 || Nat.beq k 2) && (rp_rok j i.1 && Nat.beq i.2.1 (rp_mq.getD i.1 (0, 0, 0, 0)).2.2.2)))
    | .invokespecial x => Nat.beq n 3 && (bif Nat.ble 5000 i.1 then rp_hasC (rp_mt j).2.2.2.2.1 x i.1 (Nat.beq 5) && (Nat.beq i.1 5000 && (rp_lok j 1 20 && Nat.beq i.2.1 1))
      else (rp_hasC (rp_mt j).2.2.2.2.1 x i.1 (fun k => Nat.beq k 3 || Nat.beq k 4) && (rp_rok j i.1 && Nat.beq i.2.1 ((rp_mq.getD i.1 (0, 0, 0, 0)).2.2.2 + 1))))
    | _ => false
def rp_decE (j : Nat) (e : rp_En) : Bool := decide (decode (rp_mt j).2.1 e.1 = .ok (e.2.1, e.2.2.1))
def rp_okM (j : Nat) : Bool := (rp_mi j).all fun e => rp_okE j e && rp_decE j e
