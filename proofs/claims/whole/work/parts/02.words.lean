-- ===== the tables words hold of them =====
theorem zin_of {α : Type} {f : α → Cond} {L : List α} {P : List Nat} (h : ((L.zip P).all fun q => decide (tables_1[q.2]? = some (f q.1))) = true) (hl : L.length = P.length) : ∀ q ∈ L, f q ∈ lw_tbl := by
  intro q hq
  obtain ⟨i, hi⟩ := List.getElem?_of_mem hq
  have hi2 : i < P.length := by rw [← hl]; exact (List.getElem?_eq_some_iff.mp hi).1
  have hz : (q, P[i]) ∈ L.zip P := by
    refine List.mem_of_getElem? (i := i) ?_
    rw [List.getElem?_zip_eq_some]
    exact ⟨hi, List.getElem?_eq_getElem hi2⟩
  have h1 := List.all_eq_true.mp h _ hz
  exact List.mem_append_right _ (List.mem_of_getElem? (of_decide_eq_true h1))
set_option maxRecDepth 100000 in
set_option maxHeartbeats 4000000 in
theorem zFok : ∀ q ∈ zFL, zFw q ∈ lw_tbl := zin_of (P := zFP) (by decide +kernel) (by decide +kernel)
set_option maxRecDepth 100000 in
set_option maxHeartbeats 4000000 in
theorem zMok : ∀ q ∈ zML, zMw q ∈ lw_tbl := zin_of (P := zMP) (by decide +kernel) (by decide +kernel)
set_option maxRecDepth 100000 in
set_option maxHeartbeats 4000000 in
theorem zNok : ∀ q ∈ zNL, zNw q ∈ lw_tbl := zin_of (P := zNP) (by decide +kernel) (by decide +kernel)
set_option maxRecDepth 100000 in
set_option maxHeartbeats 4000000 in
theorem zKok : ∀ q ∈ zKL, zKw q ∈ lw_tbl := zin_of (P := zKP) (by decide +kernel) (by decide +kernel)
set_option maxRecDepth 100000 in
set_option maxHeartbeats 4000000 in
theorem zSok : ∀ q ∈ zSL, zSw q ∈ lw_tbl := zin_of (P := zSP) (by decide +kernel) (by decide +kernel)
def zQ1 : List Nat := [23, 31, 37, 100, 123, 129, 173, 229, 247, 330, 426, 430, 434, 437, 441, 445, 449, 453, 457, 460, 464, 468, 475, 479, 486, 490, 497, 501, 504, 511, 515, 519, 522, 526, 529, 532, 538, 542, 547, 551, 555, 559, 563, 568, 574, 580, 584, 589, 593, 597, 601, 605, 609, 613, 617, 620, 624, 629, 633, 639, 643, 646, 649, 654, 677, 680, 684, 687, 691, 695, 699, 703, 707, 711, 715, 719, 724, 728, 732, 736, 740, 744, 748, 754, 759, 763, 767, 771, 775, 780, 784, 790, 794, 799, 803, 807, 811, 815, 819, 824, 830, 834, 840, 844, 849, 853, 857, 861, 865, 869, 873, 877, 881, 885, 889, 894, 899, 903, 907, 911, 915, 919, 924, 928, 932, 936, 940, 944, 948, 952, 956, 960, 964, 968, 972, 976, 980, 984, 988, 992, 996, 1001, 1009, 1015, 1019, 1024, 1126, 1130, 1134, 1137, 1141, 1145, 1149, 1152, 1156, 1160, 1164, 1168, 1172, 1175, 1179, 1183, 1188, 1200, 1214, 1224, 1228, 1232, 1236, 1240, 1244, 1248, 1252, 1256, 1260, 1264, 1268, 1272, 1276, 1280, 1284, 1288, 1292, 1296, 1300, 1304, 1308, 1312, 1316, 1320, 1324, 1328, 1332, 1336, 1340, 1344, 1348, 1352, 1356, 1360, 1364, 1368, 1371, 1375, 1379, 1383, 1387, 1391, 1395, 1398, 1402, 1406, 1409, 1412, 1416, 1420, 1424, 1428, 1432, 1436, 1440, 1444, 1448, 1452, 1456, 1460, 1464, 1468, 1474, 1478, 1482, 1486, 1490, 1494, 1498, 1502, 1506, 1510, 1514, 1518, 1523, 1527, 1531, 1535, 1539, 1543, 1547, 1551, 1555, 1559, 1563, 1567, 1571, 1575, 1579, 1584, 1588, 1591, 1595, 1599, 1603, 1607, 1611, 1615, 1619, 1623, 1627]
def zQ2 : List Nat := [1, 2, 3, 4, 5, 6, 7, 8, 9, 10, 1, 1, 1, 1, 2, 1, 1, 2, 1, 1, 1, 3, 1, 3, 1, 2, 2, 2, 14, 5, 6, 6, 6, 6, 6, 1, 2, 8, 2, 3, 7, 7, 7, 7, 3, 2, 4, 3, 1, 10, 10, 1, 1, 10, 10, 10, 10, 15, 15, 15, 15, 16, 15, 17, 10, 10, 10, 10, 10, 10, 10, 10, 10, 10, 6, 10, 10, 10, 10, 10, 5, 5, 6, 10, 2, 10, 10, 10, 7, 10, 8, 1, 1, 1, 1, 1, 1, 1, 2, 1, 1, 1, 1, 1, 1, 1, 1, 1, 1, 1, 2, 7, 7, 1, 7, 1, 1, 9, 1, 9, 9, 9, 1, 1, 1, 1, 1, 1, 1, 1, 1, 1, 1, 1, 1, 1, 1, 1, 1, 1, 2, 4, 9, 1, 1, 11, 11, 11, 11, 11, 11, 11, 11, 11, 11, 11, 11, 11, 11, 11, 11, 11, 11, 11, 11, 11, 11, 11, 11, 11, 11, 11, 11, 11, 11, 11, 11, 11, 11, 11, 11, 11, 11, 11, 11, 11, 11, 11, 11, 11, 11, 11, 11, 11, 11, 11, 11, 11, 11, 11, 11, 11, 11, 11, 11, 11, 11, 11, 11, 11, 11, 11, 11, 11, 11, 11, 11, 11, 11, 11, 11, 11, 11, 11, 11, 11, 11, 11, 11, 11, 11, 11, 11, 11, 11, 11, 11, 11, 11, 11, 11, 11, 11, 11, 11, 11, 11, 11, 11, 11, 11, 11, 11, 11, 11, 11, 11, 11, 11, 11, 11, 11, 11, 11, 11, 11, 11]
def zQ3 : List Nat := [22, 30, 36, 99, 122, 128, 172, 228, 246, 329, 424, 429, 432, 436, 440, 443, 448, 452, 455, 459, 463, 467, 473, 478, 484, 489, 496, 500, 503, 510, 514, 518, 521, 525, 528, 531, 537, 541, 546, 550, 554, 558, 562, 567, 573, 579, 583, 588, 591, 596, 600, 603, 607, 612, 616, 619, 623, 627, 631, 637, 641, 645, 648, 653, 676, 679, 683, 686, 690, 694, 698, 702, 706, 710, 714, 718, 723, 727, 731, 735, 739, 743, 747, 753, 758, 762, 766, 770, 774, 779, 783, 788, 792, 798, 801, 805, 809, 813, 818, 822, 828, 832, 838, 843, 847, 851, 856, 860, 863, 867, 872, 876, 880, 883, 888, 892, 897, 902, 905, 910, 914, 918, 922, 926, 930, 935, 938, 942, 947, 950, 954, 958, 963, 967, 970, 975, 978, 983, 986, 990, 995, 1000, 1008, 1013, 1018, 1023, 1124, 1129, 1132, 1136, 1139, 1144, 1148, 1151, 1154, 1158, 1162, 1167, 1171, 1174, 1178, 1182, 1187, 1199, 1213, 1223, 1227, 1231, 1235, 1239, 1243, 1247, 1251, 1255, 1259, 1263, 1267, 1271, 1275, 1279, 1283, 1287, 1291, 1295, 1299, 1303, 1307, 1311, 1315, 1319, 1323, 1327, 1331, 1335, 1339, 1343, 1347, 1350, 1354, 1358, 1363, 1366, 1370, 1373, 1378, 1382, 1386, 1390, 1394, 1397, 1401, 1405, 1408, 1411, 1415, 1419, 1423, 1427, 1431, 1435, 1439, 1443, 1447, 1451, 1455, 1459, 1463, 1467, 1472, 1476, 1480, 1484, 1488, 1492, 1497, 1500, 1504, 1508, 1513, 1516, 1521, 1525, 1529, 1533, 1538, 1541, 1545, 1550, 1554, 1558, 1561, 1565, 1570, 1574, 1577, 1582, 1586, 1590, 1593, 1597, 1601, 1605, 1609, 1613, 1618, 1621, 1625]
def zMTr : List ZM := zMT0 ++ (zMT1 ++ (zMT2 ++ (zMT3 ++ (zMT4))))
def zcdok (w : Option Cond) (n : MethodName) (ml : Nat) (r : Option FieldType) : Bool := match w with
  | some (.code a _ b c) => decide (a = n) && decide (b = ml) && decide (c = r)
  | _ => false
theorem zcdok_spec {i : Nat} {n : MethodName} {ml : Nat} {r : Option FieldType} (h : zcdok tables_1[i]? n ml r = true) : Cond.code n (zat i) ml r ∈ lw_tbl := by
  unfold zat
  cases hw : tables_1[i]? with
  | none => rw [hw] at h; cases h
  | some w =>
    rw [hw] at h
    cases w <;> first | (simp [zcdok] at h; done) | skip
    rename_i a b c d
    simp only [zcdok, Bool.and_eq_true, decide_eq_true_eq] at h
    obtain ⟨⟨rfl, rfl⟩, rfl⟩ := h
    exact List.mem_append_right _ (List.mem_of_getElem? hw)
theorem zin3_of {L : List ZM} {P : List Nat} (h : ((L.zip P).all fun q => zcdok tables_1[q.2]? q.1.1 q.1.2.2.1 q.1.2.2.2.1) = true) (hl : L.length = P.length) (hz : L.map (fun q => q.2.1) = P.map zat) : ∀ q ∈ L, Cond.code q.1 q.2.1 q.2.2.1 q.2.2.2.1 ∈ lw_tbl := by
  intro q hq
  obtain ⟨i, hi⟩ := List.getElem?_of_mem hq
  have hi2 : i < P.length := by rw [← hl]; exact (List.getElem?_eq_some_iff.mp hi).1
  have hm : (q, P[i]) ∈ L.zip P := by
    refine List.mem_of_getElem? (i := i) ?_
    rw [List.getElem?_zip_eq_some]
    exact ⟨hi, List.getElem?_eq_getElem hi2⟩
  have h1 := List.all_eq_true.mp h _ hm
  have h2 : (L.map (fun q => q.2.1))[i]? = (P.map zat)[i]? := by rw [hz]
  rw [List.getElem?_map, List.getElem?_map, hi, List.getElem?_eq_getElem hi2] at h2
  have h3 : q.2.1 = zat P[i] := Option.some.inj h2
  rw [h3]
  exact zcdok_spec h1
def zc1_P0 : List Nat := [23, 31, 37, 100, 123, 129, 173, 229, 247, 330, 426, 430, 434, 437, 441, 445, 449, 453, 457, 460, 464, 468, 475, 479, 486, 490, 497, 501, 504, 511, 515, 519, 522, 526, 529, 532, 538, 542, 547, 551, 555, 559, 563, 568, 574, 580, 584, 589, 593, 597, 601, 605, 609, 613, 617, 620, 624, 629, 633, 639]
set_option maxRecDepth 100000 in
set_option maxHeartbeats 4000000 in
theorem zc1_0 : ∀ q ∈ zMT0, Cond.code q.1 q.2.1 q.2.2.1 q.2.2.2.1 ∈ lw_tbl := zin3_of (P := zc1_P0) (by decide +kernel) (by decide +kernel) rfl
def zc1_P1 : List Nat := [643, 646, 649, 654, 677, 680, 684, 687, 691, 695, 699, 703, 707, 711, 715, 719, 724, 728, 732, 736, 740, 744, 748, 754, 759, 763, 767, 771, 775, 780, 784, 790, 794, 799, 803, 807, 811, 815, 819, 824, 830, 834, 840, 844, 849, 853, 857, 861, 865, 869, 873, 877, 881, 885, 889, 894, 899, 903, 907, 911]
set_option maxRecDepth 100000 in
set_option maxHeartbeats 4000000 in
theorem zc1_1 : ∀ q ∈ zMT1, Cond.code q.1 q.2.1 q.2.2.1 q.2.2.2.1 ∈ lw_tbl := zin3_of (P := zc1_P1) (by decide +kernel) (by decide +kernel) rfl
def zc1_P2 : List Nat := [915, 919, 924, 928, 932, 936, 940, 944, 948, 952, 956, 960, 964, 968, 972, 976, 980, 984, 988, 992, 996, 1001, 1009, 1015, 1019, 1024, 1126, 1130, 1134, 1137, 1141, 1145, 1149, 1152, 1156, 1160, 1164, 1168, 1172, 1175, 1179, 1183, 1188, 1200, 1214, 1224, 1228, 1232, 1236, 1240, 1244, 1248, 1252, 1256, 1260, 1264, 1268, 1272, 1276, 1280]
set_option maxRecDepth 100000 in
set_option maxHeartbeats 4000000 in
theorem zc1_2 : ∀ q ∈ zMT2, Cond.code q.1 q.2.1 q.2.2.1 q.2.2.2.1 ∈ lw_tbl := zin3_of (P := zc1_P2) (by decide +kernel) (by decide +kernel) rfl
def zc1_P3 : List Nat := [1284, 1288, 1292, 1296, 1300, 1304, 1308, 1312, 1316, 1320, 1324, 1328, 1332, 1336, 1340, 1344, 1348, 1352, 1356, 1360, 1364, 1368, 1371, 1375, 1379, 1383, 1387, 1391, 1395, 1398, 1402, 1406, 1409, 1412, 1416, 1420, 1424, 1428, 1432, 1436, 1440, 1444, 1448, 1452, 1456, 1460, 1464, 1468, 1474, 1478, 1482, 1486, 1490, 1494, 1498, 1502, 1506, 1510, 1514, 1518]
set_option maxRecDepth 100000 in
set_option maxHeartbeats 4000000 in
theorem zc1_3 : ∀ q ∈ zMT3, Cond.code q.1 q.2.1 q.2.2.1 q.2.2.2.1 ∈ lw_tbl := zin3_of (P := zc1_P3) (by decide +kernel) (by decide +kernel) rfl
def zc1_P4 : List Nat := [1523, 1527, 1531, 1535, 1539, 1543, 1547, 1551, 1555, 1559, 1563, 1567, 1571, 1575, 1579, 1584, 1588, 1591, 1595, 1599, 1603, 1607, 1611, 1615, 1619, 1623, 1627]
set_option maxRecDepth 100000 in
set_option maxHeartbeats 4000000 in
theorem zc1_4 : ∀ q ∈ zMT4, Cond.code q.1 q.2.1 q.2.2.1 q.2.2.2.1 ∈ lw_tbl := zin3_of (P := zc1_P4) (by decide +kernel) (by decide +kernel) rfl
theorem zc1 : ∀ q ∈ zMTr, Cond.code q.1 q.2.1 q.2.2.1 q.2.2.2.1 ∈ lw_tbl := by
  intro q h
  unfold zMTr at h
  simp only [List.mem_append] at h
  rcases h with h | h | h | h | h
  · exact zc1_0 q h
  · exact zc1_1 q h
  · exact zc1_2 q h
  · exact zc1_3 q h
  · exact zc1_4 q h
def zc2_P0 : List Nat := [1, 2, 3, 4, 5, 6, 7, 8, 9, 10, 1, 1, 1, 1, 2, 1, 1, 2, 1, 1, 1, 3, 1, 3, 1, 2, 2, 2, 14, 5, 6, 6, 6, 6, 6, 1, 2, 8, 2, 3, 7, 7, 7, 7, 3, 2, 4, 3, 1, 10, 10, 1, 1, 10, 10, 10, 10, 15, 15, 15]
set_option maxRecDepth 100000 in
set_option maxHeartbeats 4000000 in
theorem zc2_0 : ∀ q ∈ zMT0, (fun q : ZM => Cond.initialized q.1.cls) q ∈ lw_tbl := zin_of (f := fun q : ZM => Cond.initialized q.1.cls) (P := zc2_P0) (by decide +kernel) (by decide +kernel)
def zc2_P1 : List Nat := [15, 16, 15, 17, 10, 10, 10, 10, 10, 10, 10, 10, 10, 10, 6, 10, 10, 10, 10, 10, 5, 5, 6, 10, 2, 10, 10, 10, 7, 10, 8, 1, 1, 1, 1, 1, 1, 1, 2, 1, 1, 1, 1, 1, 1, 1, 1, 1, 1, 1, 2, 7, 7, 1, 7, 1, 1, 9, 1, 9]
set_option maxRecDepth 100000 in
set_option maxHeartbeats 4000000 in
theorem zc2_1 : ∀ q ∈ zMT1, (fun q : ZM => Cond.initialized q.1.cls) q ∈ lw_tbl := zin_of (f := fun q : ZM => Cond.initialized q.1.cls) (P := zc2_P1) (by decide +kernel) (by decide +kernel)
def zc2_P2 : List Nat := [9, 9, 1, 1, 1, 1, 1, 1, 1, 1, 1, 1, 1, 1, 1, 1, 1, 1, 1, 1, 2, 4, 9, 1, 1, 11, 11, 11, 11, 11, 11, 11, 11, 11, 11, 11, 11, 11, 11, 11, 11, 11, 11, 11, 11, 11, 11, 11, 11, 11, 11, 11, 11, 11, 11, 11, 11, 11, 11, 11]
set_option maxRecDepth 100000 in
set_option maxHeartbeats 4000000 in
theorem zc2_2 : ∀ q ∈ zMT2, (fun q : ZM => Cond.initialized q.1.cls) q ∈ lw_tbl := zin_of (f := fun q : ZM => Cond.initialized q.1.cls) (P := zc2_P2) (by decide +kernel) (by decide +kernel)
def zc2_P3 : List Nat := [11, 11, 11, 11, 11, 11, 11, 11, 11, 11, 11, 11, 11, 11, 11, 11, 11, 11, 11, 11, 11, 11, 11, 11, 11, 11, 11, 11, 11, 11, 11, 11, 11, 11, 11, 11, 11, 11, 11, 11, 11, 11, 11, 11, 11, 11, 11, 11, 11, 11, 11, 11, 11, 11, 11, 11, 11, 11, 11, 11]
set_option maxRecDepth 100000 in
set_option maxHeartbeats 4000000 in
theorem zc2_3 : ∀ q ∈ zMT3, (fun q : ZM => Cond.initialized q.1.cls) q ∈ lw_tbl := zin_of (f := fun q : ZM => Cond.initialized q.1.cls) (P := zc2_P3) (by decide +kernel) (by decide +kernel)
def zc2_P4 : List Nat := [11, 11, 11, 11, 11, 11, 11, 11, 11, 11, 11, 11, 11, 11, 11, 11, 11, 11, 11, 11, 11, 11, 11, 11, 11, 11, 11]
set_option maxRecDepth 100000 in
set_option maxHeartbeats 4000000 in
theorem zc2_4 : ∀ q ∈ zMT4, (fun q : ZM => Cond.initialized q.1.cls) q ∈ lw_tbl := zin_of (f := fun q : ZM => Cond.initialized q.1.cls) (P := zc2_P4) (by decide +kernel) (by decide +kernel)
theorem zc2 : ∀ q ∈ zMTr, Cond.initialized q.1.cls ∈ lw_tbl := by
  intro q h
  unfold zMTr at h
  simp only [List.mem_append] at h
  rcases h with h | h | h | h | h
  · exact zc2_0 q h
  · exact zc2_1 q h
  · exact zc2_2 q h
  · exact zc2_3 q h
  · exact zc2_4 q h
def zc3_P0 : List Nat := [22, 30, 36, 99, 122, 128, 172, 228, 246, 329, 424, 429, 432, 436, 440, 443, 448, 452, 455, 459, 463, 467, 473, 478, 484, 489, 496, 500, 503, 510, 514, 518, 521, 525, 528, 531, 537, 541, 546, 550, 554, 558, 562, 567, 573, 579, 583, 588, 591, 596, 600, 603, 607, 612, 616, 619, 623, 627, 631, 637]
set_option maxRecDepth 100000 in
set_option maxHeartbeats 4000000 in
theorem zc3_0 : ∀ q ∈ zMT0, (fun q : ZM => (if q.2.2.2.2.1 = 0 then Cond.static q.1 else Cond.instanceMethod q.1)) q ∈ lw_tbl := zin_of (f := fun q : ZM => (if q.2.2.2.2.1 = 0 then Cond.static q.1 else Cond.instanceMethod q.1)) (P := zc3_P0) (by decide +kernel) (by decide +kernel)
def zc3_P1 : List Nat := [641, 645, 648, 653, 676, 679, 683, 686, 690, 694, 698, 702, 706, 710, 714, 718, 723, 727, 731, 735, 739, 743, 747, 753, 758, 762, 766, 770, 774, 779, 783, 788, 792, 798, 801, 805, 809, 813, 818, 822, 828, 832, 838, 843, 847, 851, 856, 860, 863, 867, 872, 876, 880, 883, 888, 892, 897, 902, 905, 910]
set_option maxRecDepth 100000 in
set_option maxHeartbeats 4000000 in
theorem zc3_1 : ∀ q ∈ zMT1, (fun q : ZM => (if q.2.2.2.2.1 = 0 then Cond.static q.1 else Cond.instanceMethod q.1)) q ∈ lw_tbl := zin_of (f := fun q : ZM => (if q.2.2.2.2.1 = 0 then Cond.static q.1 else Cond.instanceMethod q.1)) (P := zc3_P1) (by decide +kernel) (by decide +kernel)
def zc3_P2 : List Nat := [914, 918, 922, 926, 930, 935, 938, 942, 947, 950, 954, 958, 963, 967, 970, 975, 978, 983, 986, 990, 995, 1000, 1008, 1013, 1018, 1023, 1124, 1129, 1132, 1136, 1139, 1144, 1148, 1151, 1154, 1158, 1162, 1167, 1171, 1174, 1178, 1182, 1187, 1199, 1213, 1223, 1227, 1231, 1235, 1239, 1243, 1247, 1251, 1255, 1259, 1263, 1267, 1271, 1275, 1279]
set_option maxRecDepth 100000 in
set_option maxHeartbeats 4000000 in
theorem zc3_2 : ∀ q ∈ zMT2, (fun q : ZM => (if q.2.2.2.2.1 = 0 then Cond.static q.1 else Cond.instanceMethod q.1)) q ∈ lw_tbl := zin_of (f := fun q : ZM => (if q.2.2.2.2.1 = 0 then Cond.static q.1 else Cond.instanceMethod q.1)) (P := zc3_P2) (by decide +kernel) (by decide +kernel)
def zc3_P3 : List Nat := [1283, 1287, 1291, 1295, 1299, 1303, 1307, 1311, 1315, 1319, 1323, 1327, 1331, 1335, 1339, 1343, 1347, 1350, 1354, 1358, 1363, 1366, 1370, 1373, 1378, 1382, 1386, 1390, 1394, 1397, 1401, 1405, 1408, 1411, 1415, 1419, 1423, 1427, 1431, 1435, 1439, 1443, 1447, 1451, 1455, 1459, 1463, 1467, 1472, 1476, 1480, 1484, 1488, 1492, 1497, 1500, 1504, 1508, 1513, 1516]
set_option maxRecDepth 100000 in
set_option maxHeartbeats 4000000 in
theorem zc3_3 : ∀ q ∈ zMT3, (fun q : ZM => (if q.2.2.2.2.1 = 0 then Cond.static q.1 else Cond.instanceMethod q.1)) q ∈ lw_tbl := zin_of (f := fun q : ZM => (if q.2.2.2.2.1 = 0 then Cond.static q.1 else Cond.instanceMethod q.1)) (P := zc3_P3) (by decide +kernel) (by decide +kernel)
def zc3_P4 : List Nat := [1521, 1525, 1529, 1533, 1538, 1541, 1545, 1550, 1554, 1558, 1561, 1565, 1570, 1574, 1577, 1582, 1586, 1590, 1593, 1597, 1601, 1605, 1609, 1613, 1618, 1621, 1625]
set_option maxRecDepth 100000 in
set_option maxHeartbeats 4000000 in
theorem zc3_4 : ∀ q ∈ zMT4, (fun q : ZM => (if q.2.2.2.2.1 = 0 then Cond.static q.1 else Cond.instanceMethod q.1)) q ∈ lw_tbl := zin_of (f := fun q : ZM => (if q.2.2.2.2.1 = 0 then Cond.static q.1 else Cond.instanceMethod q.1)) (P := zc3_P4) (by decide +kernel) (by decide +kernel)
theorem zc3 : ∀ q ∈ zMTr, (if q.2.2.2.2.1 = 0 then Cond.static q.1 else Cond.instanceMethod q.1) ∈ lw_tbl := by
  intro q h
  unfold zMTr at h
  simp only [List.mem_append] at h
  rcases h with h | h | h | h | h
  · exact zc3_0 q h
  · exact zc3_1 q h
  · exact zc3_2 q h
  · exact zc3_3 q h
  · exact zc3_4 q h
set_option maxRecDepth 100000 in
set_option maxHeartbeats 4000000 in
theorem zc5_0 : ∀ q ∈ zMT0, (q.2.2.2.2.1 = 2 → q.1.name = "<init>" ∧ q.2.2.2.1 = none) ∧ plainName q.1.cls = true ∧ q.1.cls ≠ "java/lang/invoke/MethodHandle" ∧ q.1.cls ≠ "java/lang/invoke/VarHandle" ∧ (parseMethodDescriptor q.1.desc).map (fun d => d.parameters.length) = some q.2.2.2.2.2.1 ∧ q.1.cls = zcn q.2.2.2.2.2.2 ∧ q.2.2.1 ≤ 12 ∧ q.2.2.2.2.1 ≤ 2 := by decide +kernel
set_option maxRecDepth 100000 in
set_option maxHeartbeats 4000000 in
theorem zc5_1 : ∀ q ∈ zMT1, (q.2.2.2.2.1 = 2 → q.1.name = "<init>" ∧ q.2.2.2.1 = none) ∧ plainName q.1.cls = true ∧ q.1.cls ≠ "java/lang/invoke/MethodHandle" ∧ q.1.cls ≠ "java/lang/invoke/VarHandle" ∧ (parseMethodDescriptor q.1.desc).map (fun d => d.parameters.length) = some q.2.2.2.2.2.1 ∧ q.1.cls = zcn q.2.2.2.2.2.2 ∧ q.2.2.1 ≤ 12 ∧ q.2.2.2.2.1 ≤ 2 := by decide +kernel
set_option maxRecDepth 100000 in
set_option maxHeartbeats 4000000 in
theorem zc5_2 : ∀ q ∈ zMT2, (q.2.2.2.2.1 = 2 → q.1.name = "<init>" ∧ q.2.2.2.1 = none) ∧ plainName q.1.cls = true ∧ q.1.cls ≠ "java/lang/invoke/MethodHandle" ∧ q.1.cls ≠ "java/lang/invoke/VarHandle" ∧ (parseMethodDescriptor q.1.desc).map (fun d => d.parameters.length) = some q.2.2.2.2.2.1 ∧ q.1.cls = zcn q.2.2.2.2.2.2 ∧ q.2.2.1 ≤ 12 ∧ q.2.2.2.2.1 ≤ 2 := by decide +kernel
set_option maxRecDepth 100000 in
set_option maxHeartbeats 4000000 in
theorem zc5_3 : ∀ q ∈ zMT3, (q.2.2.2.2.1 = 2 → q.1.name = "<init>" ∧ q.2.2.2.1 = none) ∧ plainName q.1.cls = true ∧ q.1.cls ≠ "java/lang/invoke/MethodHandle" ∧ q.1.cls ≠ "java/lang/invoke/VarHandle" ∧ (parseMethodDescriptor q.1.desc).map (fun d => d.parameters.length) = some q.2.2.2.2.2.1 ∧ q.1.cls = zcn q.2.2.2.2.2.2 ∧ q.2.2.1 ≤ 12 ∧ q.2.2.2.2.1 ≤ 2 := by decide +kernel
set_option maxRecDepth 100000 in
set_option maxHeartbeats 4000000 in
theorem zc5_4 : ∀ q ∈ zMT4, (q.2.2.2.2.1 = 2 → q.1.name = "<init>" ∧ q.2.2.2.1 = none) ∧ plainName q.1.cls = true ∧ q.1.cls ≠ "java/lang/invoke/MethodHandle" ∧ q.1.cls ≠ "java/lang/invoke/VarHandle" ∧ (parseMethodDescriptor q.1.desc).map (fun d => d.parameters.length) = some q.2.2.2.2.2.1 ∧ q.1.cls = zcn q.2.2.2.2.2.2 ∧ q.2.2.1 ≤ 12 ∧ q.2.2.2.2.1 ≤ 2 := by decide +kernel
theorem zc5 : ∀ q ∈ zMTr, (q.2.2.2.2.1 = 2 → q.1.name = "<init>" ∧ q.2.2.2.1 = none) ∧ plainName q.1.cls = true ∧ q.1.cls ≠ "java/lang/invoke/MethodHandle" ∧ q.1.cls ≠ "java/lang/invoke/VarHandle" ∧ (parseMethodDescriptor q.1.desc).map (fun d => d.parameters.length) = some q.2.2.2.2.2.1 ∧ q.1.cls = zcn q.2.2.2.2.2.2 ∧ q.2.2.1 ≤ 12 ∧ q.2.2.2.2.1 ≤ 2 := by
  intro q h
  unfold zMTr at h
  simp only [List.mem_append] at h
  rcases h with h | h | h | h | h
  · exact zc5_0 q h
  · exact zc5_1 q h
  · exact zc5_2 q h
  · exact zc5_3 q h
  · exact zc5_4 q h
theorem zin2_of {α : Type} {f : α → Cond} {L : List α} {P : List Nat} (h : ((L.zip P).all fun q => decide (lw_tbl[q.2]? = some (f q.1))) = true) (hl : L.length = P.length) : ∀ q ∈ L, f q ∈ lw_tbl := by
  intro q hq
  obtain ⟨i, hi⟩ := List.getElem?_of_mem hq
  have hi2 : i < P.length := by rw [← hl]; exact (List.getElem?_eq_some_iff.mp hi).1
  have hz : (q, P[i]) ∈ L.zip P := by
    refine List.mem_of_getElem? (i := i) ?_
    rw [List.getElem?_zip_eq_some]
    exact ⟨hi, List.getElem?_eq_getElem hi2⟩
  have h1 := List.all_eq_true.mp h _ hz
  exact List.mem_of_getElem? (of_decide_eq_true h1)
def zc4_P0 : List Nat := [150, 151, 152, 153, 154, 155, 156, 157, 158, 159, 574, 0, 582, 150, 1, 593, 2, 3, 605, 150, 4, 5, 623, 6, 634, 7, 8, 9, 163, 10, 11, 155, 155, 155, 155, 150, 12, 13, 14, 15, 16, 17, 18, 19, 20, 21, 22, 23, 741, 24, 25, 753, 757, 26, 27, 159, 28, 777, 781, 787]
set_option maxRecDepth 100000 in
set_option maxHeartbeats 4000000 in
theorem zc4_0 : ∀ q ∈ zMT0, (fun q : ZM => (if q.2.2.2.2.1 = 1 then Cond.selects q.1.cls q.1 q.1 else Cond.initialized q.1.cls)) q ∈ lw_tbl := zin2_of (f := fun q : ZM => (if q.2.2.2.2.1 = 1 then Cond.selects q.1.cls q.1 q.1 else Cond.initialized q.1.cls)) (P := zc4_P0) (by decide +kernel) (by decide +kernel)
def zc4_P1 : List Nat := [791, 165, 164, 166, 29, 159, 30, 159, 31, 32, 33, 34, 35, 36, 37, 38, 39, 40, 41, 42, 43, 44, 45, 46, 47, 48, 49, 50, 51, 52, 53, 938, 942, 54, 951, 955, 959, 963, 55, 972, 978, 982, 988, 56, 997, 1001, 57, 58, 1013, 1017, 59, 60, 61, 1033, 62, 1042, 1047, 63, 1055, 64]
set_option maxRecDepth 100000 in
set_option maxHeartbeats 4000000 in
theorem zc4_1 : ∀ q ∈ zMT1, (fun q : ZM => (if q.2.2.2.2.1 = 1 then Cond.selects q.1.cls q.1 q.1 else Cond.initialized q.1.cls)) q ∈ lw_tbl := zin2_of (f := fun q : ZM => (if q.2.2.2.2.1 = 1 then Cond.selects q.1.cls q.1 q.1 else Cond.initialized q.1.cls)) (P := zc4_P1) (by decide +kernel) (by decide +kernel)
def zc4_P2 : List Nat := [65, 66, 1072, 1076, 1080, 67, 1088, 1092, 68, 1100, 1104, 1108, 69, 70, 1120, 71, 1128, 72, 1136, 1140, 73, 74, 75, 1163, 76, 160, 1274, 77, 1282, 160, 1289, 78, 79, 160, 1304, 1308, 1312, 80, 81, 160, 82, 83, 84, 85, 86, 87, 160, 88, 89, 90, 91, 92, 93, 94, 95, 96, 97, 98, 99, 100]
set_option maxRecDepth 100000 in
set_option maxHeartbeats 4000000 in
theorem zc4_2 : ∀ q ∈ zMT2, (fun q : ZM => (if q.2.2.2.2.1 = 1 then Cond.selects q.1.cls q.1 q.1 else Cond.initialized q.1.cls)) q ∈ lw_tbl := zin2_of (f := fun q : ZM => (if q.2.2.2.2.1 = 1 then Cond.selects q.1.cls q.1 q.1 else Cond.initialized q.1.cls)) (P := zc4_P2) (by decide +kernel) (by decide +kernel)
def zc4_P3 : List Nat := [101, 102, 103, 104, 105, 106, 107, 108, 109, 110, 111, 112, 113, 114, 115, 116, 117, 1500, 1504, 1508, 118, 1516, 160, 1523, 119, 120, 121, 122, 123, 160, 124, 125, 160, 160, 126, 127, 128, 129, 130, 131, 132, 133, 134, 135, 136, 137, 138, 139, 1622, 1626, 1630, 1634, 1638, 1642, 140, 1650, 1654, 1658, 141, 1666]
set_option maxRecDepth 100000 in
set_option maxHeartbeats 4000000 in
theorem zc4_3 : ∀ q ∈ zMT3, (fun q : ZM => (if q.2.2.2.2.1 = 1 then Cond.selects q.1.cls q.1 q.1 else Cond.initialized q.1.cls)) q ∈ lw_tbl := zin2_of (f := fun q : ZM => (if q.2.2.2.2.1 = 1 then Cond.selects q.1.cls q.1 q.1 else Cond.initialized q.1.cls)) (P := zc4_P3) (by decide +kernel) (by decide +kernel)
def zc4_P4 : List Nat := [1671, 1675, 1679, 1683, 142, 1691, 1695, 143, 144, 145, 1711, 1715, 146, 147, 1727, 1732, 1736, 160, 1743, 1747, 1751, 1755, 1759, 1763, 148, 1771, 1775]
set_option maxRecDepth 100000 in
set_option maxHeartbeats 4000000 in
theorem zc4_4 : ∀ q ∈ zMT4, (fun q : ZM => (if q.2.2.2.2.1 = 1 then Cond.selects q.1.cls q.1 q.1 else Cond.initialized q.1.cls)) q ∈ lw_tbl := zin2_of (f := fun q : ZM => (if q.2.2.2.2.1 = 1 then Cond.selects q.1.cls q.1 q.1 else Cond.initialized q.1.cls)) (P := zc4_P4) (by decide +kernel) (by decide +kernel)
theorem zc4 : ∀ q ∈ zMTr, (if q.2.2.2.2.1 = 1 then Cond.selects q.1.cls q.1 q.1 else Cond.initialized q.1.cls) ∈ lw_tbl := by
  intro q h
  unfold zMTr at h
  simp only [List.mem_append] at h
  rcases h with h | h | h | h | h
  · exact zc4_0 q h
  · exact zc4_1 q h
  · exact zc4_2 q h
  · exact zc4_3 q h
  · exact zc4_4 q h
def zLP : List (List Nat) := [[552, 554, 556, 558, 560, 562, 564, 566, 568], [439, 441, 443, 445, 447, 449, 451, 453, 455, 457, 459, 461, 463, 465, 467, 469], [221, 223, 225, 227, 229, 231, 233, 235, 237, 239, 241], [259, 261, 263, 265], [305, 307, 309, 311, 313, 315], [287, 289, 291, 293], [353, 355, 357, 359, 361, 363, 365, 367, 369, 371], [387, 389], [402, 404, 406], [510, 512, 514, 516, 518, 520, 522, 524, 526, 528, 530, 532, 534, 536, 538, 540], [1207, 1209, 1211, 1213, 1215, 1217, 1219, 1221, 1223, 1225, 1227, 1229, 1231, 1233, 1235, 1237, 1239, 1241, 1243, 1245, 1247, 1249, 1251, 1253, 1255, 1257, 1259, 1261, 1263, 1265, 1267, 1269]]
set_option maxRecDepth 100000 in
set_option maxHeartbeats 4000000 in
theorem zcw : ∀ c ∈ List.range 11, ∀ k ∈ List.range (zN c), lw_tbl[(zLP.getD c []).getD k 0]? = some (u_lay (zcn c) (zT c) k) := by decide +kernel
set_option maxRecDepth 100000 in
set_option maxHeartbeats 4000000 in
theorem zct : ∀ c ∈ List.range 11, ∀ k ∈ List.range (zN c), parseFieldDescriptor (zT c k).2.2.1 = some (if zfk c k = 0 then .int else if zfk c k = 1 then .boolean else match parseFieldDescriptor (zT c k).2.2.1 with | some t => t | none => .int) ∧ (zfk c k = 2 → (match parseFieldDescriptor (zT c k).2.2.1 with | some t => t.isReference | none => false) = true) ∧ (zT c k).1 = zcn c ∧ (zfk c k = 2 → (zT c k).2.2.2 = true) := by decide +kernel
set_option maxRecDepth 100000 in
set_option maxHeartbeats 4000000 in
theorem zcd : ∀ c ∈ List.range 11, ∀ a ∈ List.range (zN c), ∀ b ∈ List.range (zN c), a ≠ b → (zT c a).2.1 ≠ (zT c b).2.1 := by decide +kernel
def zIP : List Nat := [20, 28, 34, 97, 120, 126, 170, 226, 244, 327, 1021]
def zJP : List Nat := [1, 2, 3, 4, 5, 6, 7, 8, 9, 10, 11]
set_option maxRecDepth 100000 in
set_option maxHeartbeats 4000000 in
theorem zci : ∀ c ∈ List.range 11, Cond.instantiable (zcn c) (zN c) ∈ lw_tbl := zin_of (f := fun c => Cond.instantiable (zcn c) (zN c)) (P := zIP) (by decide +kernel) (by decide +kernel)
set_option maxRecDepth 100000 in
set_option maxHeartbeats 4000000 in
theorem zcj : ∀ c ∈ List.range 11, Cond.initialized (zcn c) ∈ lw_tbl := zin_of (f := fun c => Cond.initialized (zcn c)) (P := zJP) (by decide +kernel) (by decide +kernel)
set_option maxRecDepth 100000 in
set_option maxHeartbeats 4000000 in
theorem zw_int : Cond.arrayClass .int ∈ lw_tbl := List.mem_append_right _ (List.mem_of_getElem? (i := 95) (by decide +kernel))
set_option maxRecDepth 100000 in
set_option maxHeartbeats 4000000 in
theorem zw_bool : Cond.arrayClass .boolean ∈ lw_tbl := List.mem_append_right _ (List.mem_of_getElem? (i := 422) (by decide +kernel))
set_option maxRecDepth 100000 in
set_option maxHeartbeats 4000000 in
theorem zw_over : Cond.arrayOver (.object "SpareDay$Moment") ∈ lw_tbl := List.mem_append_right _ (List.mem_of_getElem? (i := 324) (by decide +kernel))
set_option maxRecDepth 100000 in
set_option maxHeartbeats 4000000 in
theorem zw_acn : Cond.native arraycopyName ∈ lw_tbl := List.mem_append_right _ (List.mem_of_getElem? (i := 471) (by decide +kernel))
set_option maxRecDepth 100000 in
set_option maxHeartbeats 4000000 in
theorem zw_acs : Cond.static arraycopyName ∈ lw_tbl := List.mem_append_right _ (List.mem_of_getElem? (i := 470) (by decide +kernel))
set_option maxRecDepth 100000 in
set_option maxHeartbeats 4000000 in
theorem zw_aci : Cond.initialized "java/lang/System" ∈ lw_tbl := List.mem_append_right _ (List.mem_of_getElem? (i := 12) (by decide +kernel))
