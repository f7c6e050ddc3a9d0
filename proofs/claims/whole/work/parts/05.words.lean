/-! the methods' words; one step, all of them; calls; whole methods -/
def mWl : List (Nat × Nat × Nat × Nat) := [(554, 553, 0, 111), (599, 598, 0, 111), (572, 571, 0, 111), (584, 583, 0, 111), (581, 580, 0, 111), (401, 400, 0, 107), (409, 408, 0, 107), (419, 418, 0, 107), (429, 428, 0, 107), (416, 415, 0, 107), (412, 411, 0, 107), (436, 435, 0, 107), (592, 591, 0, 107), (471, 470, 0, 107), (475, 474, 0, 107), (479, 478, 0, 107), (134, 133, 0, 99), (990, 988, 989, 99), (652, 650, 651, 99), (720, 718, 719, 99), (663, 661, 662, 99), (230, 229, 0, 101), (692, 690, 691, 101), (707, 706, 23, 101), (715, 714, 24, 101), (724, 722, 723, 101), (728, 727, 25, 101), (733, 732, 26, 101), (886, 884, 885, 101), (890, 889, 43, 101), (894, 893, 44, 101), (898, 897, 45, 101), (902, 901, 0, 101), (342, 341, 0, 105), (458, 456, 457, 105), (960, 958, 959, 105), (969, 967, 968, 105), (977, 975, 976, 105), (297, 296, 0, 103), (834, 832, 833, 103), (830, 828, 829, 103), (840, 839, 38, 103), (848, 847, 39, 103), (859, 858, 41, 103), (854, 853, 40, 103), (869, 867, 868, 103), (873, 872, 42, 103), (258, 257, 0, 102), (753, 751, 752, 102), (758, 757, 28, 102), (762, 761, 29, 102), (769, 768, 30, 102), (776, 775, 31, 102), (780, 779, 32, 102), (785, 784, 33, 102), (803, 802, 37, 102), (791, 790, 34, 102), (795, 794, 35, 102), (799, 798, 36, 102), (194, 193, 0, 100), (500, 498, 499, 100), (504, 503, 1, 100), (508, 507, 2, 100), (512, 511, 3, 100), (516, 515, 4, 100), (520, 519, 5, 100), (524, 523, 6, 100), (539, 538, 9, 100), (547, 546, 11, 100), (528, 527, 7, 100), (551, 550, 12, 100), (535, 534, 0, 100), (532, 531, 8, 100), (543, 542, 10, 100), (565, 563, 564, 100), (596, 595, 15, 100), (569, 568, 14, 100), (603, 602, 16, 100), (607, 606, 17, 100), (613, 612, 0, 100), (610, 609, 0, 100), (124, 123, 0, 97), (985, 983, 984, 97), (703, 701, 702, 97), (910, 908, 909, 97), (741, 739, 740, 97), (820, 818, 819, 97), (319, 318, 0, 104), (934, 932, 933, 104), (938, 937, 47, 104), (941, 940, 0, 104), (948, 947, 48, 104), (116, 115, 0, 96), (398, 396, 397, 96), (433, 431, 432, 96), (440, 438, 439, 96), (447, 445, 446, 96), (451, 449, 450, 96), (468, 466, 467, 96), (483, 481, 482, 96), (487, 485, 486, 96), (620, 618, 619, 96), (628, 626, 627, 96), (637, 635, 636, 96), (648, 646, 647, 96), (659, 657, 658, 96), (672, 670, 671, 96), (676, 674, 675, 96), (737, 735, 736, 96), (745, 743, 744, 96), (807, 805, 806, 96), (812, 810, 811, 96), (816, 814, 815, 96), (826, 824, 825, 96), (864, 862, 863, 96), (877, 875, 876, 96), (882, 880, 881, 96), (906, 904, 905, 96), (914, 912, 913, 96), (922, 920, 921, 96), (926, 924, 925, 96), (930, 928, 929, 96), (952, 950, 951, 96), (956, 954, 955, 96), (965, 963, 964, 96), (973, 971, 972, 96), (981, 979, 980, 96), (995, 993, 994, 96), (999, 997, 998, 96), (1003, 1001, 1002, 96), (1007, 1005, 1006, 96), (1011, 1009, 1010, 96), (405, 404, 0, 96), (624, 623, 18, 96), (641, 640, 19, 96), (680, 679, 20, 96), (454, 453, 0, 96), (490, 489, 0, 96), (493, 492, 0, 96), (443, 442, 0, 96), (496, 495, 0, 96), (631, 630, 0, 96), (616, 615, 0, 96), (655, 654, 0, 96), (772, 771, 0, 96), (561, 560, 13, 96), (688, 687, 22, 96), (749, 748, 27, 96), (684, 683, 21, 96), (918, 917, 46, 96), (1016, 1015, 0, 106), (1024, 1023, 0, 106), (1034, 1033, 0, 106), (1027, 1026, 0, 106), (1031, 1030, 50, 106), (1021, 1020, 49, 106), (1149, 1148, 51, 106), (1144, 1143, 0, 106), (1141, 1140, 0, 106), (1165, 1164, 0, 106), (1261, 1260, 65, 106), (1327, 1326, 74, 106), (1307, 1306, 0, 106), (1269, 1268, 66, 106), (1276, 1275, 67, 106), (1292, 1291, 70, 106), (1153, 1152, 0, 106), (1138, 1136, 1137, 106), (1157, 1155, 1156, 106), (1162, 1160, 1161, 106), (1169, 1167, 1168, 106), (1173, 1171, 1172, 106), (1185, 1184, 0, 106), (1182, 1180, 1181, 106), (1189, 1187, 1188, 106), (1223, 1222, 58, 106), (1231, 1230, 60, 106), (1227, 1226, 59, 106), (1199, 1198, 52, 106), (1203, 1202, 53, 106), (1207, 1206, 54, 106), (1211, 1210, 55, 106), (1215, 1214, 56, 106), (1234, 1233, 0, 106), (1219, 1218, 57, 106), (1250, 1249, 64, 106), (1253, 1252, 0, 106), (1246, 1245, 63, 106), (1242, 1241, 62, 106), (1238, 1237, 61, 106), (1195, 1193, 1194, 106), (1257, 1255, 1256, 106), (1272, 1271, 0, 106), (1265, 1263, 1264, 106), (1284, 1283, 68, 106), (1288, 1287, 69, 106), (1296, 1295, 71, 106), (1280, 1278, 1279, 106), (1304, 1303, 72, 106), (1300, 1298, 1299, 106), (1315, 1314, 73, 106), (1311, 1309, 1310, 106), (1319, 1317, 1318, 106), (1338, 1337, 0, 106), (1335, 1334, 76, 106), (1346, 1345, 78, 106), (1342, 1341, 77, 106), (1331, 1330, 75, 106), (1323, 1321, 1322, 106), (1350, 1348, 1349, 106), (1362, 1361, 80, 106), (1358, 1357, 79, 106), (1354, 1352, 1353, 106), (1366, 1364, 1365, 106), (1374, 1373, 81, 106), (1370, 1368, 1369, 106), (1378, 1376, 1377, 106), (1402, 1401, 86, 106), (1394, 1393, 84, 106), (1390, 1389, 83, 106), (1398, 1397, 85, 106), (1386, 1385, 82, 106), (1382, 1380, 1381, 106), (1410, 1409, 87, 106), (1406, 1404, 1405, 106), (1418, 1417, 0, 106), (1414, 1412, 1413, 106), (1422, 1420, 1421, 106), (1430, 1429, 88, 106), (1426, 1424, 1425, 106), (1438, 1437, 89, 106), (1434, 1432, 1433, 106), (1445, 1443, 1444, 106), (1453, 1452, 90, 106), (1449, 1447, 1448, 106), (1476, 1475, 94, 106), (1468, 1467, 0, 106), (1461, 1460, 91, 106), (1465, 1464, 92, 106), (1472, 1471, 93, 106), (1457, 1455, 1456, 106), (1480, 1478, 1479, 106), (1176, 1175, 0, 106), (1484, 1482, 1483, 106), (1488, 1486, 1487, 106), (1492, 1490, 1491, 106), (1496, 1494, 1495, 106), (1500, 1498, 1499, 106), (1504, 1502, 1503, 106), (1508, 1506, 1507, 106), (1512, 1510, 1511, 106), (1516, 1514, 1515, 106), (422, 421, 0, 108), (1441, 1440, 0, 109), (461, 460, 0, 109), (699, 698, 0, 98), (130, 129, 0, 98), (696, 695, 0, 98)]
def mW (j : Nat) : Nat × Nat × Nat × Nat := mWl.getD j (0, 0, 0, 0)
def tl (w : Cond) (k : Nat) : Bool := decide (lw_tbl[k]? = some w) && useW w
theorem tl_in {w : Cond} {k : Nat} (h : tl w k = true) : w ∈ lwU := List.mem_filter.mpr ⟨List.mem_of_getElem? (of_decide_eq_true (Bool.and_eq_true_iff.mp h).1), (Bool.and_eq_true_iff.mp h).2⟩
def mok (j : Nat) : Bool := tl (.code (mY j) (mB j) (mL j) (mR j)) (mW j).1
  && (bif mS j then tl (.static (mY j)) (mW j).2.1 else tl (.instanceMethod (mY j)) (mW j).2.1)
  && (mS j || decide ((mY j).name = "<init>") || tl (.selects (cN (mO j)) (mY j) (mY j)) (mW j).2.2.1)
  && tl (.initialized (cN (mO j))) (mW j).2.2.2
  && decide ((mY j).cls = cN (mO j)) && (decide ((mY j).cls = "java/lang/Math") || plainName (mY j).cls) && decide ((mY j).cls ≠ "java/lang/invoke/MethodHandle") && decide ((mY j).cls ≠ "java/lang/invoke/VarHandle")
  && decide ((parseMethodDescriptor (mY j).desc).map (fun d => d.parameters.length) = some (mP j)) && Nat.ble (mL j) 21
set_option maxRecDepth 1000000 in
theorem mok_0 : (List.range 16).all (fun k => mok (0 + k)) = true := by decide +kernel
set_option maxRecDepth 1000000 in
theorem mok_16 : (List.range 16).all (fun k => mok (16 + k)) = true := by decide +kernel
set_option maxRecDepth 1000000 in
theorem mok_32 : (List.range 16).all (fun k => mok (32 + k)) = true := by decide +kernel
set_option maxRecDepth 1000000 in
theorem mok_48 : (List.range 16).all (fun k => mok (48 + k)) = true := by decide +kernel
set_option maxRecDepth 1000000 in
theorem mok_64 : (List.range 16).all (fun k => mok (64 + k)) = true := by decide +kernel
set_option maxRecDepth 1000000 in
theorem mok_80 : (List.range 16).all (fun k => mok (80 + k)) = true := by decide +kernel
set_option maxRecDepth 1000000 in
theorem mok_96 : (List.range 16).all (fun k => mok (96 + k)) = true := by decide +kernel
set_option maxRecDepth 1000000 in
theorem mok_112 : (List.range 16).all (fun k => mok (112 + k)) = true := by decide +kernel
set_option maxRecDepth 1000000 in
theorem mok_128 : (List.range 16).all (fun k => mok (128 + k)) = true := by decide +kernel
set_option maxRecDepth 1000000 in
theorem mok_144 : (List.range 16).all (fun k => mok (144 + k)) = true := by decide +kernel
set_option maxRecDepth 1000000 in
theorem mok_160 : (List.range 16).all (fun k => mok (160 + k)) = true := by decide +kernel
set_option maxRecDepth 1000000 in
theorem mok_176 : (List.range 16).all (fun k => mok (176 + k)) = true := by decide +kernel
set_option maxRecDepth 1000000 in
theorem mok_192 : (List.range 16).all (fun k => mok (192 + k)) = true := by decide +kernel
set_option maxRecDepth 1000000 in
theorem mok_208 : (List.range 16).all (fun k => mok (208 + k)) = true := by decide +kernel
set_option maxRecDepth 1000000 in
theorem mok_224 : (List.range 16).all (fun k => mok (224 + k)) = true := by decide +kernel
set_option maxRecDepth 1000000 in
theorem mok_240 : (List.range 16).all (fun k => mok (240 + k)) = true := by decide +kernel
set_option maxRecDepth 1000000 in
theorem mok_256 : (List.range 2).all (fun k => mok (256 + k)) = true := by decide +kernel
theorem mok_all (i : Nat) (h : i < 258) : mok i = true := by
  by_cases h0 : i < 16
  · exact range_all_add mok 0 16 mok_0 i (by omega) h0
  by_cases h16 : i < 32
  · exact range_all_add mok 16 16 mok_16 i (by omega) h16
  by_cases h32 : i < 48
  · exact range_all_add mok 32 16 mok_32 i (by omega) h32
  by_cases h48 : i < 64
  · exact range_all_add mok 48 16 mok_48 i (by omega) h48
  by_cases h64 : i < 80
  · exact range_all_add mok 64 16 mok_64 i (by omega) h64
  by_cases h80 : i < 96
  · exact range_all_add mok 80 16 mok_80 i (by omega) h80
  by_cases h96 : i < 112
  · exact range_all_add mok 96 16 mok_96 i (by omega) h96
  by_cases h112 : i < 128
  · exact range_all_add mok 112 16 mok_112 i (by omega) h112
  by_cases h128 : i < 144
  · exact range_all_add mok 128 16 mok_128 i (by omega) h128
  by_cases h144 : i < 160
  · exact range_all_add mok 144 16 mok_144 i (by omega) h144
  by_cases h160 : i < 176
  · exact range_all_add mok 160 16 mok_160 i (by omega) h160
  by_cases h176 : i < 192
  · exact range_all_add mok 176 16 mok_176 i (by omega) h176
  by_cases h192 : i < 208
  · exact range_all_add mok 192 16 mok_192 i (by omega) h192
  by_cases h208 : i < 224
  · exact range_all_add mok 208 16 mok_208 i (by omega) h208
  by_cases h224 : i < 240
  · exact range_all_add mok 224 16 mok_224 i (by omega) h224
  by_cases h240 : i < 256
  · exact range_all_add mok 240 16 mok_240 i (by omega) h240
  by_cases h256 : i < 258
  · exact range_all_add mok 256 2 mok_256 i (by omega) h256
  omega
theorem cN0 : cN 0 = "NineDemands$Law" := rfl
theorem cN2 : cN 2 = "NineDemands$Sheet" := rfl
def ckf (i pc : Nat) : Bool := match itT i pc with
  | some (.putfield _, _, a, b) => !(kT a b).2.2.2 || (decide ((mY i).name = "<init>") && decide ((kT a b).1 = cN (mO i)))
  | _ => true
def ckfm (i : Nat) : Bool := (List.range (mN i)).all (ckf i)
set_option maxRecDepth 1000000 in
theorem ckf_0 : (List.range 37).all (fun k => ckfm (0 + k)) = true := by decide +kernel
set_option maxRecDepth 1000000 in
theorem ckf_37 : (List.range 37).all (fun k => ckfm (37 + k)) = true := by decide +kernel
set_option maxRecDepth 1000000 in
theorem ckf_74 : (List.range 37).all (fun k => ckfm (74 + k)) = true := by decide +kernel
set_option maxRecDepth 1000000 in
theorem ckf_111 : (List.range 37).all (fun k => ckfm (111 + k)) = true := by decide +kernel
set_option maxRecDepth 1000000 in
theorem ckf_148 : (List.range 37).all (fun k => ckfm (148 + k)) = true := by decide +kernel
set_option maxRecDepth 1000000 in
theorem ckf_185 : (List.range 37).all (fun k => ckfm (185 + k)) = true := by decide +kernel
set_option maxRecDepth 1000000 in
theorem ckf_222 : (List.range 37).all (fun k => ckfm (222 + k)) = true := by decide +kernel
theorem ckf_all {i pc : Nat} {ix len a b : Nat} (h : it i pc = some (.putfield ix, len, a, b)) : (kT a b).2.2.2 = false ∨ ((mY i).name = "<init>" ∧ (kT a b).1 = cN (mO i)) := by
  unfold it at h
  cases hg : (Nat.blt i 259 && Nat.blt pc (mN i)) with
  | false => rw [hg] at h; cases h
  | true =>
    rw [hg] at h
    have h' : itT i pc = some (.putfield ix, len, a, b) := h
    obtain ⟨h1, h2⟩ := Bool.and_eq_true_iff.mp hg
    have h1 : i < 259 := Nat.blt_eq.mp h1
    have h2 : pc < mN i := Nat.blt_eq.mp h2
    have hm : ckfm i = true := by
      by_cases h0 : i < 37
      · exact range_all_add ckfm 0 37 ckf_0 i (by omega) h0
      by_cases h37 : i < 74
      · exact range_all_add ckfm 37 37 ckf_37 i (by omega) h37
      by_cases h74 : i < 111
      · exact range_all_add ckfm 74 37 ckf_74 i (by omega) h74
      by_cases h111 : i < 148
      · exact range_all_add ckfm 111 37 ckf_111 i (by omega) h111
      by_cases h148 : i < 185
      · exact range_all_add ckfm 148 37 ckf_148 i (by omega) h148
      by_cases h185 : i < 222
      · exact range_all_add ckfm 185 37 ckf_185 i (by omega) h185
      by_cases h222 : i < 259
      · exact range_all_add ckfm 222 37 ckf_222 i (by omega) h222
      omega
    have hc : ckf i pc = true := List.all_eq_true.mp hm pc (List.mem_range.mpr h2)
    unfold ckf at hc
    rw [h'] at hc
    simp only [Bool.or_eq_true, Bool.not_eq_true', Bool.and_eq_true, decide_eq_true_eq] at hc
    exact hc
/-- which call: 1 an object's, 2 a static one, 3 a constructor's; 0 none -/
def acall (ins : Instr) : Nat := match ins with | .invokevirtual _ => 1 | .invokestatic _ => 2 | .invokespecial _ => 3 | _ => 0
def ckv (i pc : Nat) : Bool := match itT i pc with
  | some (.invokevirtual _, _, a, _) => Nat.blt 999 a || !(decide ((mY a).name = "<init>"))
  | some (.invokespecial _, _, a, _) => Nat.blt 999 a || decide ((mY a).name = "<init>")
  | _ => true
def ckvm (i : Nat) : Bool := (List.range (mN i)).all (ckv i)
set_option maxRecDepth 1000000 in
theorem ckv_0 : (List.range 37).all (fun k => ckvm (0 + k)) = true := by decide +kernel
set_option maxRecDepth 1000000 in
theorem ckv_37 : (List.range 37).all (fun k => ckvm (37 + k)) = true := by decide +kernel
set_option maxRecDepth 1000000 in
theorem ckv_74 : (List.range 37).all (fun k => ckvm (74 + k)) = true := by decide +kernel
set_option maxRecDepth 1000000 in
theorem ckv_111 : (List.range 37).all (fun k => ckvm (111 + k)) = true := by decide +kernel
set_option maxRecDepth 1000000 in
theorem ckv_148 : (List.range 37).all (fun k => ckvm (148 + k)) = true := by decide +kernel
set_option maxRecDepth 1000000 in
theorem ckv_185 : (List.range 37).all (fun k => ckvm (185 + k)) = true := by decide +kernel
set_option maxRecDepth 1000000 in
theorem ckv_222 : (List.range 37).all (fun k => ckvm (222 + k)) = true := by decide +kernel
theorem ckv_all {i pc : Nat} {ins : Instr} {len a b : Nat} (h : it i pc = some (ins, len, a, b)) (ha : a < 999) : (acall ins = 1 → (mY a).name ≠ "<init>") ∧ (acall ins = 3 → (mY a).name = "<init>") := by
  unfold it at h
  cases hg : (Nat.blt i 259 && Nat.blt pc (mN i)) with
  | false => rw [hg] at h; cases h
  | true =>
    rw [hg] at h
    have h' : itT i pc = some (ins, len, a, b) := h
    obtain ⟨h1, h2⟩ := Bool.and_eq_true_iff.mp hg
    have h1 : i < 259 := Nat.blt_eq.mp h1
    have h2 : pc < mN i := Nat.blt_eq.mp h2
    have hm : ckvm i = true := by
      by_cases h0 : i < 37
      · exact range_all_add ckvm 0 37 ckv_0 i (by omega) h0
      by_cases h37 : i < 74
      · exact range_all_add ckvm 37 37 ckv_37 i (by omega) h37
      by_cases h74 : i < 111
      · exact range_all_add ckvm 74 37 ckv_74 i (by omega) h74
      by_cases h111 : i < 148
      · exact range_all_add ckvm 111 37 ckv_111 i (by omega) h111
      by_cases h148 : i < 185
      · exact range_all_add ckvm 148 37 ckv_148 i (by omega) h148
      by_cases h185 : i < 222
      · exact range_all_add ckvm 185 37 ckv_185 i (by omega) h185
      by_cases h222 : i < 259
      · exact range_all_add ckvm 222 37 ckv_222 i (by omega) h222
      omega
    have hc : ckv i pc = true := List.all_eq_true.mp hm pc (List.mem_range.mpr h2)
    unfold ckv at hc
    rw [h'] at hc
    have hna : Nat.blt 999 a = false := by
      cases e : Nat.blt 999 a with
      | false => rfl
      | true => exact absurd (Nat.blt_eq.mp e) (by omega)
    refine ⟨fun q => ?_, fun q => ?_⟩
    · cases ins <;> first | (simp only [acall] at q; omega) | skip
      dsimp only at hc
      rw [hna] at hc
      simpa using hc
    · cases ins <;> first | (simp only [acall] at q; omega) | skip
      dsimp only at hc
      rw [hna] at hc
      simpa using hc
set_option maxRecDepth 1000000 in
theorem MLk_plain0 : MLk.all (fun q => Nat.blt 999 q.2.2.1 || plainName (mY q.2.2.1).cls) = true := by decide +kernel
