/-! the methods' words; one step, all of them; calls; whole methods -/
def mWl : List (Nat × Nat × Nat × Nat) := [(556, 555, 0, 111), (601, 600, 0, 111), (574, 573, 0, 111), (586, 585, 0, 111), (583, 582, 0, 111), (403, 402, 0, 107), (411, 410, 0, 107), (421, 420, 0, 107), (431, 430, 0, 107), (418, 417, 0, 107), (414, 413, 0, 107), (438, 437, 0, 107), (594, 593, 0, 107), (473, 472, 0, 107), (477, 476, 0, 107), (481, 480, 0, 107), (134, 133, 0, 99), (992, 990, 991, 99), (654, 652, 653, 99), (722, 720, 721, 99), (665, 663, 664, 99), (236, 235, 0, 102), (694, 692, 693, 102), (709, 708, 23, 102), (717, 716, 24, 102), (726, 724, 725, 102), (730, 729, 25, 102), (735, 734, 26, 102), (888, 886, 887, 102), (892, 891, 43, 102), (896, 895, 44, 102), (900, 899, 45, 102), (904, 903, 0, 102), (344, 343, 0, 105), (460, 458, 459, 105), (962, 960, 961, 105), (971, 969, 970, 105), (979, 977, 978, 105), (299, 298, 0, 103), (836, 834, 835, 103), (832, 830, 831, 103), (842, 841, 38, 103), (850, 849, 39, 103), (861, 860, 41, 103), (856, 855, 40, 103), (871, 869, 870, 103), (875, 874, 42, 103), (230, 229, 0, 101), (755, 753, 754, 101), (760, 759, 28, 101), (764, 763, 29, 101), (771, 770, 30, 101), (778, 777, 31, 101), (782, 781, 32, 101), (787, 786, 33, 101), (805, 804, 37, 101), (793, 792, 34, 101), (797, 796, 35, 101), (801, 800, 36, 101), (194, 193, 0, 100), (502, 500, 501, 100), (506, 505, 1, 100), (510, 509, 2, 100), (514, 513, 3, 100), (518, 517, 4, 100), (522, 521, 5, 100), (526, 525, 6, 100), (541, 540, 9, 100), (549, 548, 11, 100), (530, 529, 7, 100), (553, 552, 12, 100), (537, 536, 0, 100), (534, 533, 8, 100), (545, 544, 10, 100), (567, 565, 566, 100), (598, 597, 15, 100), (571, 570, 14, 100), (605, 604, 16, 100), (609, 608, 17, 100), (615, 614, 0, 100), (612, 611, 0, 100), (124, 123, 0, 97), (987, 985, 986, 97), (705, 703, 704, 97), (912, 910, 911, 97), (743, 741, 742, 97), (822, 820, 821, 97), (321, 320, 0, 104), (936, 934, 935, 104), (940, 939, 47, 104), (943, 942, 0, 104), (950, 949, 48, 104), (116, 115, 0, 96), (400, 398, 399, 96), (435, 433, 434, 96), (442, 440, 441, 96), (449, 447, 448, 96), (453, 451, 452, 96), (470, 468, 469, 96), (485, 483, 484, 96), (489, 487, 488, 96), (622, 620, 621, 96), (630, 628, 629, 96), (639, 637, 638, 96), (650, 648, 649, 96), (661, 659, 660, 96), (674, 672, 673, 96), (678, 676, 677, 96), (739, 737, 738, 96), (747, 745, 746, 96), (809, 807, 808, 96), (814, 812, 813, 96), (818, 816, 817, 96), (828, 826, 827, 96), (866, 864, 865, 96), (879, 877, 878, 96), (884, 882, 883, 96), (908, 906, 907, 96), (916, 914, 915, 96), (924, 922, 923, 96), (928, 926, 927, 96), (932, 930, 931, 96), (954, 952, 953, 96), (958, 956, 957, 96), (967, 965, 966, 96), (975, 973, 974, 96), (983, 981, 982, 96), (997, 995, 996, 96), (1001, 999, 1000, 96), (1005, 1003, 1004, 96), (1009, 1007, 1008, 96), (1013, 1011, 1012, 96), (407, 406, 0, 96), (626, 625, 18, 96), (643, 642, 19, 96), (682, 681, 20, 96), (456, 455, 0, 96), (492, 491, 0, 96), (495, 494, 0, 96), (445, 444, 0, 96), (498, 497, 0, 96), (633, 632, 0, 96), (618, 617, 0, 96), (657, 656, 0, 96), (774, 773, 0, 96), (563, 562, 13, 96), (690, 689, 22, 96), (751, 750, 27, 96), (686, 685, 21, 96), (920, 919, 46, 96), (1018, 1017, 0, 106), (1026, 1025, 0, 106), (1036, 1035, 0, 106), (1029, 1028, 0, 106), (1033, 1032, 50, 106), (1023, 1022, 49, 106), (1151, 1150, 51, 106), (1146, 1145, 0, 106), (1143, 1142, 0, 106), (1167, 1166, 0, 106), (1263, 1262, 65, 106), (1329, 1328, 74, 106), (1309, 1308, 0, 106), (1271, 1270, 66, 106), (1278, 1277, 67, 106), (1294, 1293, 70, 106), (1155, 1154, 0, 106), (1140, 1138, 1139, 106), (1159, 1157, 1158, 106), (1164, 1162, 1163, 106), (1171, 1169, 1170, 106), (1175, 1173, 1174, 106), (1187, 1186, 0, 106), (1184, 1182, 1183, 106), (1191, 1189, 1190, 106), (1225, 1224, 58, 106), (1233, 1232, 60, 106), (1229, 1228, 59, 106), (1201, 1200, 52, 106), (1205, 1204, 53, 106), (1209, 1208, 54, 106), (1213, 1212, 55, 106), (1217, 1216, 56, 106), (1236, 1235, 0, 106), (1221, 1220, 57, 106), (1252, 1251, 64, 106), (1255, 1254, 0, 106), (1248, 1247, 63, 106), (1244, 1243, 62, 106), (1240, 1239, 61, 106), (1197, 1195, 1196, 106), (1259, 1257, 1258, 106), (1274, 1273, 0, 106), (1267, 1265, 1266, 106), (1286, 1285, 68, 106), (1290, 1289, 69, 106), (1298, 1297, 71, 106), (1282, 1280, 1281, 106), (1306, 1305, 72, 106), (1302, 1300, 1301, 106), (1317, 1316, 73, 106), (1313, 1311, 1312, 106), (1321, 1319, 1320, 106), (1340, 1339, 0, 106), (1337, 1336, 76, 106), (1348, 1347, 78, 106), (1344, 1343, 77, 106), (1333, 1332, 75, 106), (1325, 1323, 1324, 106), (1352, 1350, 1351, 106), (1364, 1363, 80, 106), (1360, 1359, 79, 106), (1356, 1354, 1355, 106), (1368, 1366, 1367, 106), (1376, 1375, 81, 106), (1372, 1370, 1371, 106), (1380, 1378, 1379, 106), (1404, 1403, 86, 106), (1396, 1395, 84, 106), (1392, 1391, 83, 106), (1400, 1399, 85, 106), (1388, 1387, 82, 106), (1384, 1382, 1383, 106), (1412, 1411, 87, 106), (1408, 1406, 1407, 106), (1420, 1419, 0, 106), (1416, 1414, 1415, 106), (1424, 1422, 1423, 106), (1432, 1431, 88, 106), (1428, 1426, 1427, 106), (1440, 1439, 89, 106), (1436, 1434, 1435, 106), (1447, 1445, 1446, 106), (1455, 1454, 90, 106), (1451, 1449, 1450, 106), (1478, 1477, 94, 106), (1470, 1469, 0, 106), (1463, 1462, 91, 106), (1467, 1466, 92, 106), (1474, 1473, 93, 106), (1459, 1457, 1458, 106), (1482, 1480, 1481, 106), (1178, 1177, 0, 106), (1486, 1484, 1485, 106), (1490, 1488, 1489, 106), (1494, 1492, 1493, 106), (1498, 1496, 1497, 106), (1502, 1500, 1501, 106), (1506, 1504, 1505, 106), (1510, 1508, 1509, 106), (1514, 1512, 1513, 106), (1518, 1516, 1517, 106), (424, 423, 0, 108), (1443, 1442, 0, 109), (463, 462, 0, 109), (701, 700, 0, 98), (130, 129, 0, 98), (698, 697, 0, 98)]
def mW (j : Nat) : Nat × Nat × Nat × Nat := mWl.getD j (0, 0, 0, 0)
def tl (w : Cond) (k : Nat) : Bool := decide (lw_tbl[k]? = some w) && useW w
theorem tl_in {w : Cond} {k : Nat} (h : tl w k = true) : w ∈ lwU := List.mem_filter.mpr ⟨List.mem_of_getElem? (of_decide_eq_true (Bool.and_eq_true_iff.mp h).1), (Bool.and_eq_true_iff.mp h).2⟩
def mok (j : Nat) : Bool := tl (.code (mY j) (mB j) (mL j) (mR j)) (mW j).1
  && (bif mS j then tl (.static (mY j)) (mW j).2.1 else tl (.instanceMethod (mY j)) (mW j).2.1)
  && (mS j || decide ((mY j).name = "<init>") || tl (.selects (cN (mO j)) (mY j) (mY j)) (mW j).2.2.1)
  && tl (.initialized (cN (mO j))) (mW j).2.2.2
  && decide ((mY j).cls = cN (mO j)) && (decide ((mY j).cls = "java/lang/Math") || plainName (mY j).cls) && decide ((mY j).cls ≠ "java/lang/invoke/MethodHandle") && decide ((mY j).cls ≠ "java/lang/invoke/VarHandle")
  && decide ((parseMethodDescriptor (mY j).desc).map (fun d => d.parameters.length) = some (mP j)) && Nat.ble (mL j) 21
set_option maxRecDepth 1000000 in
theorem mok_0 : (List.range 16).all (fun k => mok (0 + k)) = true := by decide +kernel
set_option maxRecDepth 1000000 in
theorem mok_16 : (List.range 16).all (fun k => mok (16 + k)) = true := by decide +kernel
set_option maxRecDepth 1000000 in
theorem mok_32 : (List.range 16).all (fun k => mok (32 + k)) = true := by decide +kernel
set_option maxRecDepth 1000000 in
theorem mok_48 : (List.range 16).all (fun k => mok (48 + k)) = true := by decide +kernel
set_option maxRecDepth 1000000 in
theorem mok_64 : (List.range 16).all (fun k => mok (64 + k)) = true := by decide +kernel
set_option maxRecDepth 1000000 in
theorem mok_80 : (List.range 16).all (fun k => mok (80 + k)) = true := by decide +kernel
set_option maxRecDepth 1000000 in
theorem mok_96 : (List.range 16).all (fun k => mok (96 + k)) = true := by decide +kernel
set_option maxRecDepth 1000000 in
theorem mok_112 : (List.range 16).all (fun k => mok (112 + k)) = true := by decide +kernel
set_option maxRecDepth 1000000 in
theorem mok_128 : (List.range 16).all (fun k => mok (128 + k)) = true := by decide +kernel
set_option maxRecDepth 1000000 in
theorem mok_144 : (List.range 16).all (fun k => mok (144 + k)) = true := by decide +kernel
set_option maxRecDepth 1000000 in
theorem mok_160 : (List.range 16).all (fun k => mok (160 + k)) = true := by decide +kernel
set_option maxRecDepth 1000000 in
theorem mok_176 : (List.range 16).all (fun k => mok (176 + k)) = true := by decide +kernel
set_option maxRecDepth 1000000 in
theorem mok_192 : (List.range 16).all (fun k => mok (192 + k)) = true := by decide +kernel
set_option maxRecDepth 1000000 in
theorem mok_208 : (List.range 16).all (fun k => mok (208 + k)) = true := by decide +kernel
set_option maxRecDepth 1000000 in
theorem mok_224 : (List.range 16).all (fun k => mok (224 + k)) = true := by decide +kernel
set_option maxRecDepth 1000000 in
theorem mok_240 : (List.range 16).all (fun k => mok (240 + k)) = true := by decide +kernel
set_option maxRecDepth 1000000 in
theorem mok_256 : (List.range 2).all (fun k => mok (256 + k)) = true := by decide +kernel
theorem mok_all (i : Nat) (h : i < 258) : mok i = true := by
  by_cases h0 : i < 16
  · exact range_all_add mok 0 16 mok_0 i (by omega) h0
  by_cases h16 : i < 32
  · exact range_all_add mok 16 16 mok_16 i (by omega) h16
  by_cases h32 : i < 48
  · exact range_all_add mok 32 16 mok_32 i (by omega) h32
  by_cases h48 : i < 64
  · exact range_all_add mok 48 16 mok_48 i (by omega) h48
  by_cases h64 : i < 80
  · exact range_all_add mok 64 16 mok_64 i (by omega) h64
  by_cases h80 : i < 96
  · exact range_all_add mok 80 16 mok_80 i (by omega) h80
  by_cases h96 : i < 112
  · exact range_all_add mok 96 16 mok_96 i (by omega) h96
  by_cases h112 : i < 128
  · exact range_all_add mok 112 16 mok_112 i (by omega) h112
  by_cases h128 : i < 144
  · exact range_all_add mok 128 16 mok_128 i (by omega) h128
  by_cases h144 : i < 160
  · exact range_all_add mok 144 16 mok_144 i (by omega) h144
  by_cases h160 : i < 176
  · exact range_all_add mok 160 16 mok_160 i (by omega) h160
  by_cases h176 : i < 192
  · exact range_all_add mok 176 16 mok_176 i (by omega) h176
  by_cases h192 : i < 208
  · exact range_all_add mok 192 16 mok_192 i (by omega) h192
  by_cases h208 : i < 224
  · exact range_all_add mok 208 16 mok_208 i (by omega) h208
  by_cases h224 : i < 240
  · exact range_all_add mok 224 16 mok_224 i (by omega) h224
  by_cases h240 : i < 256
  · exact range_all_add mok 240 16 mok_240 i (by omega) h240
  by_cases h256 : i < 258
  · exact range_all_add mok 256 2 mok_256 i (by omega) h256
  omega
theorem cN0 : cN 0 = "NineDemands$Law" := rfl
theorem cN2 : cN 2 = "NineDemands$Sheet" := rfl
def ckf (i pc : Nat) : Bool := match itT i pc with
  | some (.putfield _, _, a, b) => !(kT a b).2.2.2 || (decide ((mY i).name = "<init>") && decide ((kT a b).1 = cN (mO i)))
  | _ => true
def ckfm (i : Nat) : Bool := (List.range (mN i)).all (ckf i)
set_option maxRecDepth 1000000 in
theorem ckf_0 : (List.range 37).all (fun k => ckfm (0 + k)) = true := by decide +kernel
set_option maxRecDepth 1000000 in
theorem ckf_37 : (List.range 37).all (fun k => ckfm (37 + k)) = true := by decide +kernel
set_option maxRecDepth 1000000 in
theorem ckf_74 : (List.range 37).all (fun k => ckfm (74 + k)) = true := by decide +kernel
set_option maxRecDepth 1000000 in
theorem ckf_111 : (List.range 37).all (fun k => ckfm (111 + k)) = true := by decide +kernel
set_option maxRecDepth 1000000 in
theorem ckf_148 : (List.range 37).all (fun k => ckfm (148 + k)) = true := by decide +kernel
set_option maxRecDepth 1000000 in
theorem ckf_185 : (List.range 37).all (fun k => ckfm (185 + k)) = true := by decide +kernel
set_option maxRecDepth 1000000 in
theorem ckf_222 : (List.range 37).all (fun k => ckfm (222 + k)) = true := by decide +kernel
theorem ckf_all {i pc : Nat} {ix len a b : Nat} (h : it i pc = some (.putfield ix, len, a, b)) : (kT a b).2.2.2 = false ∨ ((mY i).name = "<init>" ∧ (kT a b).1 = cN (mO i)) := by
  unfold it at h
  cases hg : (Nat.blt i 259 && Nat.blt pc (mN i)) with
  | false => rw [hg] at h; cases h
  | true =>
    rw [hg] at h
    have h' : itT i pc = some (.putfield ix, len, a, b) := h
    obtain ⟨h1, h2⟩ := Bool.and_eq_true_iff.mp hg
    have h1 : i < 259 := Nat.blt_eq.mp h1
    have h2 : pc < mN i := Nat.blt_eq.mp h2
    have hm : ckfm i = true := by
      by_cases h0 : i < 37
      · exact range_all_add ckfm 0 37 ckf_0 i (by omega) h0
      by_cases h37 : i < 74
      · exact range_all_add ckfm 37 37 ckf_37 i (by omega) h37
      by_cases h74 : i < 111
      · exact range_all_add ckfm 74 37 ckf_74 i (by omega) h74
      by_cases h111 : i < 148
      · exact range_all_add ckfm 111 37 ckf_111 i (by omega) h111
      by_cases h148 : i < 185
      · exact range_all_add ckfm 148 37 ckf_148 i (by omega) h148
      by_cases h185 : i < 222
      · exact range_all_add ckfm 185 37 ckf_185 i (by omega) h185
      by_cases h222 : i < 259
      · exact range_all_add ckfm 222 37 ckf_222 i (by omega) h222
      omega
    have hc : ckf i pc = true := List.all_eq_true.mp hm pc (List.mem_range.mpr h2)
    unfold ckf at hc
    rw [h'] at hc
    simp only [Bool.or_eq_true, Bool.not_eq_true', Bool.and_eq_true, decide_eq_true_eq] at hc
    exact hc
/-- which call: 1 an object's, 2 a static one, 3 a constructor's; 0 none -/
def acall (ins : Instr) : Nat := match ins with | .invokevirtual _ => 1 | .invokestatic _ => 2 | .invokespecial _ => 3 | _ => 0
def ckv (i pc : Nat) : Bool := match itT i pc with
  | some (.invokevirtual _, _, a, _) => Nat.blt 999 a || !(decide ((mY a).name = "<init>"))
  | some (.invokespecial _, _, a, _) => Nat.blt 999 a || decide ((mY a).name = "<init>")
  | _ => true
def ckvm (i : Nat) : Bool := (List.range (mN i)).all (ckv i)
set_option maxRecDepth 1000000 in
theorem ckv_0 : (List.range 37).all (fun k => ckvm (0 + k)) = true := by decide +kernel
set_option maxRecDepth 1000000 in
theorem ckv_37 : (List.range 37).all (fun k => ckvm (37 + k)) = true := by decide +kernel
set_option maxRecDepth 1000000 in
theorem ckv_74 : (List.range 37).all (fun k => ckvm (74 + k)) = true := by decide +kernel
set_option maxRecDepth 1000000 in
theorem ckv_111 : (List.range 37).all (fun k => ckvm (111 + k)) = true := by decide +kernel
set_option maxRecDepth 1000000 in
theorem ckv_148 : (List.range 37).all (fun k => ckvm (148 + k)) = true := by decide +kernel
set_option maxRecDepth 1000000 in
theorem ckv_185 : (List.range 37).all (fun k => ckvm (185 + k)) = true := by decide +kernel
set_option maxRecDepth 1000000 in
theorem ckv_222 : (List.range 37).all (fun k => ckvm (222 + k)) = true := by decide +kernel
theorem ckv_all {i pc : Nat} {ins : Instr} {len a b : Nat} (h : it i pc = some (ins, len, a, b)) (ha : a < 999) : (acall ins = 1 → (mY a).name ≠ "<init>") ∧ (acall ins = 3 → (mY a).name = "<init>") := by
  unfold it at h
  cases hg : (Nat.blt i 259 && Nat.blt pc (mN i)) with
  | false => rw [hg] at h; cases h
  | true =>
    rw [hg] at h
    have h' : itT i pc = some (ins, len, a, b) := h
    obtain ⟨h1, h2⟩ := Bool.and_eq_true_iff.mp hg
    have h1 : i < 259 := Nat.blt_eq.mp h1
    have h2 : pc < mN i := Nat.blt_eq.mp h2
    have hm : ckvm i = true := by
      by_cases h0 : i < 37
      · exact range_all_add ckvm 0 37 ckv_0 i (by omega) h0
      by_cases h37 : i < 74
      · exact range_all_add ckvm 37 37 ckv_37 i (by omega) h37
      by_cases h74 : i < 111
      · exact range_all_add ckvm 74 37 ckv_74 i (by omega) h74
      by_cases h111 : i < 148
      · exact range_all_add ckvm 111 37 ckv_111 i (by omega) h111
      by_cases h148 : i < 185
      · exact range_all_add ckvm 148 37 ckv_148 i (by omega) h148
      by_cases h185 : i < 222
      · exact range_all_add ckvm 185 37 ckv_185 i (by omega) h185
      by_cases h222 : i < 259
      · exact range_all_add ckvm 222 37 ckv_222 i (by omega) h222
      omega
    have hc : ckv i pc = true := List.all_eq_true.mp hm pc (List.mem_range.mpr h2)
    unfold ckv at hc
    rw [h'] at hc
    have hna : Nat.blt 999 a = false := by
      cases e : Nat.blt 999 a with
      | false => rfl
      | true => exact absurd (Nat.blt_eq.mp e) (by omega)
    refine ⟨fun q => ?_, fun q => ?_⟩
    · cases ins <;> first | (simp only [acall] at q; omega) | skip
      dsimp only at hc
      rw [hna] at hc
      simpa using hc
    · cases ins <;> first | (simp only [acall] at q; omega) | skip
      dsimp only at hc
      rw [hna] at hc
      simpa using hc
set_option maxRecDepth 1000000 in
theorem MLk_plain0 : MLk.all (fun q => Nat.blt 999 q.2.2.1 || plainName (mY q.2.2.1).cls) = true := by decide +kernel
