-- ===== the tables words hold of them =====
theorem zin_of {α : Type} {f : α → Cond} {L : List α} {P : List Nat} (h : ((L.zip P).all fun q => decide (tables_1[q.2]? = some (f q.1))) = true) (hl : L.length = P.length) : ∀ q ∈ L, f q ∈ lw_tbl := by
  intro q hq
  obtain ⟨i, hi⟩ := List.getElem?_of_mem hq
  have hi2 : i < P.length := by rw [← hl]; exact (List.getElem?_eq_some_iff.mp hi).1
  have hz : (q, P[i]) ∈ L.zip P := by
    refine List.mem_of_getElem? (i := i) ?_
    rw [List.getElem?_zip_eq_some]
    exact ⟨hi, List.getElem?_eq_getElem hi2⟩
  have h1 := List.all_eq_true.mp h _ hz
  exact List.mem_append_right _ (List.mem_of_getElem? (of_decide_eq_true h1))
set_option maxRecDepth 100000 in
set_option maxHeartbeats 4000000 in
theorem zFok : ∀ q ∈ zFL, zFw q ∈ lw_tbl := zin_of (P := zFP) (by decide +kernel) (by decide +kernel)
set_option maxRecDepth 100000 in
set_option maxHeartbeats 4000000 in
theorem zMok : ∀ q ∈ zML, zMw q ∈ lw_tbl := zin_of (P := zMP) (by decide +kernel) (by decide +kernel)
set_option maxRecDepth 100000 in
set_option maxHeartbeats 4000000 in
theorem zNok : ∀ q ∈ zNL, zNw q ∈ lw_tbl := zin_of (P := zNP) (by decide +kernel) (by decide +kernel)
set_option maxRecDepth 100000 in
set_option maxHeartbeats 4000000 in
theorem zKok : ∀ q ∈ zKL, zKw q ∈ lw_tbl := zin_of (P := zKP) (by decide +kernel) (by decide +kernel)
set_option maxRecDepth 100000 in
set_option maxHeartbeats 4000000 in
theorem zSok : ∀ q ∈ zSL, zSw q ∈ lw_tbl := zin_of (P := zSP) (by decide +kernel) (by decide +kernel)
set_option maxRecDepth 100000 in
set_option maxHeartbeats 4000000 in
theorem zAok : ∀ q ∈ zAL, zAw q ∈ lw_tbl := zin_of (P := zAP) (by decide +kernel) (by decide +kernel)
def zQ1 : List Nat := [28, 36, 42, 105, 128, 134, 178, 230, 248, 328, 1255, 429, 422, 425, 433, 437, 441, 445, 449, 452, 456, 460, 467, 471, 478, 482, 489, 493, 496, 503, 507, 511, 514, 518, 521, 524, 530, 534, 539, 543, 547, 551, 555, 560, 566, 572, 576, 581, 1042, 1046, 1050, 1054, 1058, 1062, 1066, 1069, 1073, 910, 914, 1018, 1022, 1025, 1028, 1031, 1080, 1083, 1087, 1090, 1094, 1098, 1102, 1106, 1110, 1114, 1118, 1122, 1127, 1131, 1135, 1139, 1143, 1147, 1151, 1157, 606, 1162, 1166, 1170, 1174, 1179, 1183, 612, 758, 762, 585, 767, 590, 617, 686, 691, 695, 699, 703, 706, 712, 716, 720, 726, 730, 734, 738, 743, 748, 754, 772, 775, 779, 784, 787, 815, 818, 821, 825, 829, 832, 841, 853, 856, 896, 899, 919, 923, 947, 954, 959, 962, 968, 974, 594, 976, 980, 983, 986, 598, 602, 1013, 1194, 1197, 1202, 1220, 1236, 1240]
def zQ2 : List Nat := [1, 2, 3, 4, 5, 6, 7, 8, 9, 10, 1, 1, 1, 1, 2, 1, 1, 2, 1, 1, 1, 3, 1, 3, 1, 2, 2, 2, 22, 5, 6, 6, 6, 6, 6, 1, 2, 8, 2, 3, 7, 7, 7, 7, 3, 2, 4, 3, 1, 10, 10, 1, 1, 10, 10, 10, 10, 14, 14, 14, 14, 21, 14, 20, 10, 10, 10, 10, 10, 10, 10, 10, 10, 10, 6, 10, 10, 10, 10, 10, 5, 5, 6, 10, 2, 10, 10, 10, 7, 10, 8, 11, 1, 1, 1, 1, 1, 11, 11, 11, 11, 11, 11, 0, 11, 11, 23, 11, 11, 11, 11, 11, 11, 11, 0, 0, 0, 13, 12, 13, 12, 22, 12, 12, 16, 18, 12, 22, 13, 12, 12, 12, 14, 13, 14, 14, 12, 13, 1, 12, 18, 18, 18, 1, 1, 0, 0, 0, 23, 23, 23, 0]
def zQ3 : List Nat := [27, 35, 41, 104, 127, 133, 177, 229, 247, 327, 1253, 428, 420, 424, 432, 435, 440, 444, 447, 451, 455, 459, 465, 470, 476, 481, 488, 492, 495, 502, 506, 510, 513, 517, 520, 523, 529, 533, 538, 542, 546, 550, 554, 559, 565, 571, 575, 580, 1040, 1045, 1049, 1052, 1056, 1061, 1065, 1068, 1072, 908, 912, 1016, 1020, 1024, 1027, 1030, 1079, 1082, 1086, 1089, 1093, 1097, 1101, 1105, 1109, 1113, 1117, 1121, 1126, 1130, 1134, 1138, 1142, 1146, 1150, 1156, 605, 1161, 1165, 1169, 1173, 1178, 1182, 610, 756, 761, 583, 765, 588, 616, 684, 689, 693, 697, 701, 705, 710, 714, 718, 724, 728, 732, 736, 741, 746, 752, 771, 774, 778, 783, 786, 813, 817, 820, 824, 828, 831, 840, 850, 855, 894, 898, 918, 922, 945, 952, 958, 961, 965, 973, 592, 970, 979, 982, 985, 596, 601, 1012, 1193, 1196, 1201, 1218, 1234, 1239]
def zMTr : List ZM := zMT0 ++ (zMT1 ++ (zMT2))
def zcdok (w : Option Cond) (n : MethodName) (ml : Nat) (r : Option FieldType) : Bool := match w with
  | some (.code a _ b c) => decide (a = n) && decide (b = ml) && decide (c = r)
  | _ => false
theorem zcdok_spec {i : Nat} {n : MethodName} {ml : Nat} {r : Option FieldType} (h : zcdok tables_1[i]? n ml r = true) : Cond.code n (zat i) ml r ∈ lw_tbl := by
  unfold zat
  cases hw : tables_1[i]? with
  | none => rw [hw] at h; cases h
  | some w =>
    rw [hw] at h
    cases w <;> first | (simp [zcdok] at h; done) | skip
    rename_i a b c d
    simp only [zcdok, Bool.and_eq_true, decide_eq_true_eq] at h
    obtain ⟨⟨rfl, rfl⟩, rfl⟩ := h
    exact List.mem_append_right _ (List.mem_of_getElem? hw)
theorem zin3_of {L : List ZM} {P : List Nat} (h : ((L.zip P).all fun q => zcdok tables_1[q.2]? q.1.1 q.1.2.2.1 q.1.2.2.2.1) = true) (hl : L.length = P.length) (hz : L.map (fun q => q.2.1) = P.map zat) : ∀ q ∈ L, Cond.code q.1 q.2.1 q.2.2.1 q.2.2.2.1 ∈ lw_tbl := by
  intro q hq
  obtain ⟨i, hi⟩ := List.getElem?_of_mem hq
  have hi2 : i < P.length := by rw [← hl]; exact (List.getElem?_eq_some_iff.mp hi).1
  have hm : (q, P[i]) ∈ L.zip P := by
    refine List.mem_of_getElem? (i := i) ?_
    rw [List.getElem?_zip_eq_some]
    exact ⟨hi, List.getElem?_eq_getElem hi2⟩
  have h1 := List.all_eq_true.mp h _ hm
  have h2 : (L.map (fun q => q.2.1))[i]? = (P.map zat)[i]? := by rw [hz]
  rw [List.getElem?_map, List.getElem?_map, hi, List.getElem?_eq_getElem hi2] at h2
  have h3 : q.2.1 = zat P[i] := Option.some.inj h2
  rw [h3]
  exact zcdok_spec h1
def zc1_P0 : List Nat := [28, 36, 42, 105, 128, 134, 178, 230, 248, 328, 1255, 429, 422, 425, 433, 437, 441, 445, 449, 452, 456, 460, 467, 471, 478, 482, 489, 493, 496, 503, 507, 511, 514, 518, 521, 524, 530, 534, 539, 543, 547, 551, 555, 560, 566, 572, 576, 581, 1042, 1046, 1050, 1054, 1058, 1062, 1066, 1069, 1073, 910, 914, 1018]
set_option maxRecDepth 100000 in
set_option maxHeartbeats 4000000 in
theorem zc1_0 : ∀ q ∈ zMT0, Cond.code q.1 q.2.1 q.2.2.1 q.2.2.2.1 ∈ lw_tbl := zin3_of (P := zc1_P0) (by decide +kernel) (by decide +kernel) rfl
def zc1_P1 : List Nat := [1022, 1025, 1028, 1031, 1080, 1083, 1087, 1090, 1094, 1098, 1102, 1106, 1110, 1114, 1118, 1122, 1127, 1131, 1135, 1139, 1143, 1147, 1151, 1157, 606, 1162, 1166, 1170, 1174, 1179, 1183, 612, 758, 762, 585, 767, 590, 617, 686, 691, 695, 699, 703, 706, 712, 716, 720, 726, 730, 734, 738, 743, 748, 754, 772, 775, 779, 784, 787, 815]
set_option maxRecDepth 100000 in
set_option maxHeartbeats 4000000 in
theorem zc1_1 : ∀ q ∈ zMT1, Cond.code q.1 q.2.1 q.2.2.1 q.2.2.2.1 ∈ lw_tbl := zin3_of (P := zc1_P1) (by decide +kernel) (by decide +kernel) rfl
def zc1_P2 : List Nat := [818, 821, 825, 829, 832, 841, 853, 856, 896, 899, 919, 923, 947, 954, 959, 962, 968, 974, 594, 976, 980, 983, 986, 598, 602, 1013, 1194, 1197, 1202, 1220, 1236, 1240]
set_option maxRecDepth 100000 in
set_option maxHeartbeats 4000000 in
theorem zc1_2 : ∀ q ∈ zMT2, Cond.code q.1 q.2.1 q.2.2.1 q.2.2.2.1 ∈ lw_tbl := zin3_of (P := zc1_P2) (by decide +kernel) (by decide +kernel) rfl
theorem zc1 : ∀ q ∈ zMTr, Cond.code q.1 q.2.1 q.2.2.1 q.2.2.2.1 ∈ lw_tbl := by
  intro q h
  unfold zMTr at h
  simp only [List.mem_append] at h
  rcases h with h | h | h
  · exact zc1_0 q h
  · exact zc1_1 q h
  · exact zc1_2 q h
def zc2_P0 : List Nat := [1, 2, 3, 4, 5, 6, 7, 8, 9, 10, 1, 1, 1, 1, 2, 1, 1, 2, 1, 1, 1, 3, 1, 3, 1, 2, 2, 2, 22, 5, 6, 6, 6, 6, 6, 1, 2, 8, 2, 3, 7, 7, 7, 7, 3, 2, 4, 3, 1, 10, 10, 1, 1, 10, 10, 10, 10, 14, 14, 14]
set_option maxRecDepth 100000 in
set_option maxHeartbeats 4000000 in
theorem zc2_0 : ∀ q ∈ zMT0, (fun q : ZM => Cond.initialized q.1.cls) q ∈ lw_tbl := zin_of (f := fun q : ZM => Cond.initialized q.1.cls) (P := zc2_P0) (by decide +kernel) (by decide +kernel)
def zc2_P1 : List Nat := [14, 21, 14, 20, 10, 10, 10, 10, 10, 10, 10, 10, 10, 10, 6, 10, 10, 10, 10, 10, 5, 5, 6, 10, 2, 10, 10, 10, 7, 10, 8, 11, 1, 1, 1, 1, 1, 11, 11, 11, 11, 11, 11, 0, 11, 11, 23, 11, 11, 11, 11, 11, 11, 11, 0, 0, 0, 13, 12, 13]
set_option maxRecDepth 100000 in
set_option maxHeartbeats 4000000 in
theorem zc2_1 : ∀ q ∈ zMT1, (fun q : ZM => Cond.initialized q.1.cls) q ∈ lw_tbl := zin_of (f := fun q : ZM => Cond.initialized q.1.cls) (P := zc2_P1) (by decide +kernel) (by decide +kernel)
def zc2_P2 : List Nat := [12, 22, 12, 12, 16, 18, 12, 22, 13, 12, 12, 12, 14, 13, 14, 14, 12, 13, 1, 12, 18, 18, 18, 1, 1, 0, 0, 0, 23, 23, 23, 0]
set_option maxRecDepth 100000 in
set_option maxHeartbeats 4000000 in
theorem zc2_2 : ∀ q ∈ zMT2, (fun q : ZM => Cond.initialized q.1.cls) q ∈ lw_tbl := zin_of (f := fun q : ZM => Cond.initialized q.1.cls) (P := zc2_P2) (by decide +kernel) (by decide +kernel)
theorem zc2 : ∀ q ∈ zMTr, Cond.initialized q.1.cls ∈ lw_tbl := by
  intro q h
  unfold zMTr at h
  simp only [List.mem_append] at h
  rcases h with h | h | h
  · exact zc2_0 q h
  · exact zc2_1 q h
  · exact zc2_2 q h
def zc3_P0 : List Nat := [27, 35, 41, 104, 127, 133, 177, 229, 247, 327, 1253, 428, 420, 424, 432, 435, 440, 444, 447, 451, 455, 459, 465, 470, 476, 481, 488, 492, 495, 502, 506, 510, 513, 517, 520, 523, 529, 533, 538, 542, 546, 550, 554, 559, 565, 571, 575, 580, 1040, 1045, 1049, 1052, 1056, 1061, 1065, 1068, 1072, 908, 912, 1016]
set_option maxRecDepth 100000 in
set_option maxHeartbeats 4000000 in
theorem zc3_0 : ∀ q ∈ zMT0, (fun q : ZM => (if q.2.2.2.2.1 = 0 then Cond.static q.1 else Cond.instanceMethod q.1)) q ∈ lw_tbl := zin_of (f := fun q : ZM => (if q.2.2.2.2.1 = 0 then Cond.static q.1 else Cond.instanceMethod q.1)) (P := zc3_P0) (by decide +kernel) (by decide +kernel)
def zc3_P1 : List Nat := [1020, 1024, 1027, 1030, 1079, 1082, 1086, 1089, 1093, 1097, 1101, 1105, 1109, 1113, 1117, 1121, 1126, 1130, 1134, 1138, 1142, 1146, 1150, 1156, 605, 1161, 1165, 1169, 1173, 1178, 1182, 610, 756, 761, 583, 765, 588, 616, 684, 689, 693, 697, 701, 705, 710, 714, 718, 724, 728, 732, 736, 741, 746, 752, 771, 774, 778, 783, 786, 813]
set_option maxRecDepth 100000 in
set_option maxHeartbeats 4000000 in
theorem zc3_1 : ∀ q ∈ zMT1, (fun q : ZM => (if q.2.2.2.2.1 = 0 then Cond.static q.1 else Cond.instanceMethod q.1)) q ∈ lw_tbl := zin_of (f := fun q : ZM => (if q.2.2.2.2.1 = 0 then Cond.static q.1 else Cond.instanceMethod q.1)) (P := zc3_P1) (by decide +kernel) (by decide +kernel)
def zc3_P2 : List Nat := [817, 820, 824, 828, 831, 840, 850, 855, 894, 898, 918, 922, 945, 952, 958, 961, 965, 973, 592, 970, 979, 982, 985, 596, 601, 1012, 1193, 1196, 1201, 1218, 1234, 1239]
set_option maxRecDepth 100000 in
set_option maxHeartbeats 4000000 in
theorem zc3_2 : ∀ q ∈ zMT2, (fun q : ZM => (if q.2.2.2.2.1 = 0 then Cond.static q.1 else Cond.instanceMethod q.1)) q ∈ lw_tbl := zin_of (f := fun q : ZM => (if q.2.2.2.2.1 = 0 then Cond.static q.1 else Cond.instanceMethod q.1)) (P := zc3_P2) (by decide +kernel) (by decide +kernel)
theorem zc3 : ∀ q ∈ zMTr, (if q.2.2.2.2.1 = 0 then Cond.static q.1 else Cond.instanceMethod q.1) ∈ lw_tbl := by
  intro q h
  unfold zMTr at h
  simp only [List.mem_append] at h
  rcases h with h | h | h
  · exact zc3_0 q h
  · exact zc3_1 q h
  · exact zc3_2 q h
set_option maxRecDepth 100000 in
set_option maxHeartbeats 4000000 in
theorem zc5_0 : ∀ q ∈ zMT0, (q.2.2.2.2.1 = 2 → q.1.name = "<init>" ∧ q.2.2.2.1 = none) ∧ plainName q.1.cls = true ∧ q.1.cls ≠ "java/lang/invoke/MethodHandle" ∧ q.1.cls ≠ "java/lang/invoke/VarHandle" ∧ (parseMethodDescriptor q.1.desc).map (fun d => d.parameters.length) = some q.2.2.2.2.2.1 ∧ q.1.cls = zcn q.2.2.2.2.2.2 ∧ q.2.2.1 ≤ 16 ∧ q.2.2.2.2.1 ≤ 2 := by decide +kernel
set_option maxRecDepth 100000 in
set_option maxHeartbeats 4000000 in
theorem zc5_1 : ∀ q ∈ zMT1, (q.2.2.2.2.1 = 2 → q.1.name = "<init>" ∧ q.2.2.2.1 = none) ∧ plainName q.1.cls = true ∧ q.1.cls ≠ "java/lang/invoke/MethodHandle" ∧ q.1.cls ≠ "java/lang/invoke/VarHandle" ∧ (parseMethodDescriptor q.1.desc).map (fun d => d.parameters.length) = some q.2.2.2.2.2.1 ∧ q.1.cls = zcn q.2.2.2.2.2.2 ∧ q.2.2.1 ≤ 16 ∧ q.2.2.2.2.1 ≤ 2 := by decide +kernel
set_option maxRecDepth 100000 in
set_option maxHeartbeats 4000000 in
theorem zc5_2 : ∀ q ∈ zMT2, (q.2.2.2.2.1 = 2 → q.1.name = "<init>" ∧ q.2.2.2.1 = none) ∧ plainName q.1.cls = true ∧ q.1.cls ≠ "java/lang/invoke/MethodHandle" ∧ q.1.cls ≠ "java/lang/invoke/VarHandle" ∧ (parseMethodDescriptor q.1.desc).map (fun d => d.parameters.length) = some q.2.2.2.2.2.1 ∧ q.1.cls = zcn q.2.2.2.2.2.2 ∧ q.2.2.1 ≤ 16 ∧ q.2.2.2.2.1 ≤ 2 := by decide +kernel
theorem zc5 : ∀ q ∈ zMTr, (q.2.2.2.2.1 = 2 → q.1.name = "<init>" ∧ q.2.2.2.1 = none) ∧ plainName q.1.cls = true ∧ q.1.cls ≠ "java/lang/invoke/MethodHandle" ∧ q.1.cls ≠ "java/lang/invoke/VarHandle" ∧ (parseMethodDescriptor q.1.desc).map (fun d => d.parameters.length) = some q.2.2.2.2.2.1 ∧ q.1.cls = zcn q.2.2.2.2.2.2 ∧ q.2.2.1 ≤ 16 ∧ q.2.2.2.2.1 ≤ 2 := by
  intro q h
  unfold zMTr at h
  simp only [List.mem_append] at h
  rcases h with h | h | h
  · exact zc5_0 q h
  · exact zc5_1 q h
  · exact zc5_2 q h
theorem zin2_of {α : Type} {f : α → Cond} {L : List α} {P : List Nat} (h : ((L.zip P).all fun q => decide (lw_tbl[q.2]? = some (f q.1))) = true) (hl : L.length = P.length) : ∀ q ∈ L, f q ∈ lw_tbl := by
  intro q hq
  obtain ⟨i, hi⟩ := List.getElem?_of_mem hq
  have hi2 : i < P.length := by rw [← hl]; exact (List.getElem?_eq_some_iff.mp hi).1
  have hz : (q, P[i]) ∈ L.zip P := by
    refine List.mem_of_getElem? (i := i) ?_
    rw [List.getElem?_zip_eq_some]
    exact ⟨hi, List.getElem?_eq_getElem hi2⟩
  have h1 := List.all_eq_true.mp h _ hz
  exact List.mem_of_getElem? (of_decide_eq_true h1)
def zc4_P0 : List Nat := [57, 58, 59, 60, 61, 62, 63, 64, 65, 66, 1310, 0, 477, 57, 1, 492, 2, 3, 504, 57, 4, 5, 522, 6, 533, 7, 8, 9, 78, 10, 11, 62, 62, 62, 62, 57, 12, 13, 14, 15, 16, 17, 18, 19, 20, 21, 22, 23, 1097, 27, 28, 1109, 1113, 29, 30, 66, 31, 965, 969, 1073]
set_option maxRecDepth 100000 in
set_option maxHeartbeats 4000000 in
theorem zc4_0 : ∀ q ∈ zMT0, (fun q : ZM => (if q.2.2.2.2.1 = 1 ∧ q.1.cls ≠ "java/lang/AbstractStringBuilder" ∧ ¬ (q.1.cls = "java/lang/StringBuilder" ∧ q.1.name = "length") then Cond.selects q.1.cls q.1 q.1 else Cond.initialized q.1.cls)) q ∈ lw_tbl := zin2_of (f := fun q : ZM => (if q.2.2.2.2.1 = 1 ∧ q.1.cls ≠ "java/lang/AbstractStringBuilder" ∧ ¬ (q.1.cls = "java/lang/StringBuilder" ∧ q.1.name = "length") then Cond.selects q.1.cls q.1 q.1 else Cond.initialized q.1.cls)) (P := zc4_P0) (by decide +kernel) (by decide +kernel)
def zc4_P1 : List Nat := [1077, 77, 70, 76, 32, 66, 33, 66, 34, 35, 36, 37, 38, 39, 40, 41, 42, 43, 44, 45, 46, 47, 48, 49, 25, 50, 51, 52, 53, 54, 55, 667, 813, 26, 640, 822, 645, 67, 741, 746, 750, 754, 758, 56, 767, 771, 775, 781, 785, 789, 793, 798, 803, 809, 56, 56, 56, 69, 68, 870]
set_option maxRecDepth 100000 in
set_option maxHeartbeats 4000000 in
theorem zc4_1 : ∀ q ∈ zMT1, (fun q : ZM => (if q.2.2.2.2.1 = 1 ∧ q.1.cls ≠ "java/lang/AbstractStringBuilder" ∧ ¬ (q.1.cls = "java/lang/StringBuilder" ∧ q.1.name = "length") then Cond.selects q.1.cls q.1 q.1 else Cond.initialized q.1.cls)) q ∈ lw_tbl := zin2_of (f := fun q : ZM => (if q.2.2.2.2.1 = 1 ∧ q.1.cls ≠ "java/lang/AbstractStringBuilder" ∧ ¬ (q.1.cls = "java/lang/StringBuilder" ∧ q.1.name = "length") then Cond.selects q.1.cls q.1 q.1 else Cond.initialized q.1.cls)) (P := zc4_P1) (by decide +kernel) (by decide +kernel)
def zc4_P2 : List Nat := [68, 78, 68, 68, 72, 74, 68, 78, 951, 68, 68, 68, 1002, 1009, 70, 70, 68, 69, 649, 68, 74, 74, 74, 653, 24, 56, 56, 56, 79, 1275, 1291, 56]
set_option maxRecDepth 100000 in
set_option maxHeartbeats 4000000 in
theorem zc4_2 : ∀ q ∈ zMT2, (fun q : ZM => (if q.2.2.2.2.1 = 1 ∧ q.1.cls ≠ "java/lang/AbstractStringBuilder" ∧ ¬ (q.1.cls = "java/lang/StringBuilder" ∧ q.1.name = "length") then Cond.selects q.1.cls q.1 q.1 else Cond.initialized q.1.cls)) q ∈ lw_tbl := zin2_of (f := fun q : ZM => (if q.2.2.2.2.1 = 1 ∧ q.1.cls ≠ "java/lang/AbstractStringBuilder" ∧ ¬ (q.1.cls = "java/lang/StringBuilder" ∧ q.1.name = "length") then Cond.selects q.1.cls q.1 q.1 else Cond.initialized q.1.cls)) (P := zc4_P2) (by decide +kernel) (by decide +kernel)
theorem zc4 : ∀ q ∈ zMTr, (if q.2.2.2.2.1 = 1 ∧ q.1.cls ≠ "java/lang/AbstractStringBuilder" ∧ ¬ (q.1.cls = "java/lang/StringBuilder" ∧ q.1.name = "length") then Cond.selects q.1.cls q.1 q.1 else Cond.initialized q.1.cls) ∈ lw_tbl := by
  intro q h
  unfold zMTr at h
  simp only [List.mem_append] at h
  rcases h with h | h | h
  · exact zc4_0 q h
  · exact zc4_1 q h
  · exact zc4_2 q h
def zLP : List (List Nat) := [[455, 457, 459, 461, 463, 465, 467, 469, 471], [344, 346, 348, 350, 352, 354, 356, 358, 360, 362, 364, 366, 368, 370, 372, 374], [133, 135, 137, 139, 141, 143, 145, 147, 149, 151, 153], [171, 173, 175, 177], [217, 219, 221, 223, 225, 227], [199, 201, 203, 205], [261, 263, 265, 267, 269, 271, 273, 275, 277, 279], [295, 297], [309, 311, 313], [413, 415, 417, 419, 421, 423, 425, 427, 429, 431, 433, 435, 437, 439, 441, 443], [702, 704, 706, 708, 710, 712, 714, 716, 718, 720, 722, 724, 726, 728, 730], [858, 860, 862, 864], [1058, 1060, 1062, 1064], [1264, 1266, 1268, 1270]]
set_option maxRecDepth 100000 in
set_option maxHeartbeats 4000000 in
theorem zcw : ∀ c ∈ List.range 14, ∀ k ∈ List.range (zN c), lw_tbl[(zLP.getD c []).getD k 0]? = some (u_lay (zcn c) (zT c) k) := by decide +kernel
set_option maxRecDepth 100000 in
set_option maxHeartbeats 4000000 in
theorem zct : ∀ c ∈ List.range 14, ∀ k ∈ List.range (zN c), parseFieldDescriptor (zT c k).2.2.1 = some (if zfk c k = 0 then .int else if zfk c k = 1 then .boolean else if zfk c k = 3 then .byte else match parseFieldDescriptor (zT c k).2.2.1 with | some t => t | none => .int) ∧ (zfk c k = 2 → (match parseFieldDescriptor (zT c k).2.2.1 with | some t => t.isReference | none => false) = true) ∧ ((zT c k).2.2.2 = true → (zT c k).1 = zcn c) ∧ (zfk c k = 0 ∨ zfk c k = 1 ∨ zfk c k = 2 ∨ zfk c k = 3) := by decide +kernel
set_option maxRecDepth 100000 in
set_option maxHeartbeats 4000000 in
theorem zcd : ∀ c ∈ List.range 14, ∀ a ∈ List.range (zN c), ∀ b ∈ List.range (zN c), a ≠ b → (zT c a).2.1 ≠ (zT c b).2.1 := by decide +kernel
def zIP : List Nat := [25, 33, 39, 102, 125, 131, 175, 227, 245, 325, 614, 781, 956, 1199]
def zJP : List Nat := [1, 2, 3, 4, 5, 6, 7, 8, 9, 10, 11, 13, 14, 23]
set_option maxRecDepth 100000 in
set_option maxHeartbeats 4000000 in
theorem zci : ∀ c ∈ List.range 14, Cond.instantiable (zcn c) (zN c) ∈ lw_tbl := zin_of (f := fun c => Cond.instantiable (zcn c) (zN c)) (P := zIP) (by decide +kernel) (by decide +kernel)
set_option maxRecDepth 100000 in
set_option maxHeartbeats 4000000 in
theorem zcj : ∀ c ∈ List.range 14, Cond.initialized (zcn c) ∈ lw_tbl := zin_of (f := fun c => Cond.initialized (zcn c)) (P := zJP) (by decide +kernel) (by decide +kernel)
set_option maxRecDepth 100000 in
set_option maxHeartbeats 4000000 in
theorem zw_int : Cond.arrayClass .int ∈ lw_tbl := List.mem_append_right _ (List.mem_of_getElem? (i := 100) (by decide +kernel))
set_option maxRecDepth 100000 in
set_option maxHeartbeats 4000000 in
theorem zw_bool : Cond.arrayClass .boolean ∈ lw_tbl := List.mem_append_right _ (List.mem_of_getElem? (i := 418) (by decide +kernel))
set_option maxRecDepth 100000 in
set_option maxHeartbeats 4000000 in
theorem zw_byte : Cond.arrayClass .byte ∈ lw_tbl := List.mem_append_right _ (List.mem_of_getElem? (i := 811) (by decide +kernel))
set_option maxRecDepth 100000 in
set_option maxHeartbeats 4000000 in
theorem zw_over : Cond.arrayOver (.object "SpareDay$Moment") ∈ lw_tbl := List.mem_append_right _ (List.mem_of_getElem? (i := 322) (by decide +kernel))
set_option maxRecDepth 100000 in
set_option maxHeartbeats 4000000 in
theorem zw_overL : Cond.arrayOver (.object "SpareDayLaw$Land") ∈ lw_tbl := List.mem_append_right _ (List.mem_of_getElem? (i := 1256) (by decide +kernel))
set_option maxRecDepth 100000 in
set_option maxHeartbeats 4000000 in
theorem zw_overA : Cond.arrayOver (.array .int) ∈ lw_tbl := List.mem_append_right _ (List.mem_of_getElem? (i := 620) (by decide +kernel))
set_option maxRecDepth 100000 in
set_option maxHeartbeats 4000000 in
theorem zw_acn : Cond.native arraycopyName ∈ lw_tbl := List.mem_append_right _ (List.mem_of_getElem? (i := 463) (by decide +kernel))
set_option maxRecDepth 100000 in
set_option maxHeartbeats 4000000 in
theorem zw_acs : Cond.static arraycopyName ∈ lw_tbl := List.mem_append_right _ (List.mem_of_getElem? (i := 462) (by decide +kernel))
set_option maxRecDepth 100000 in
set_option maxHeartbeats 4000000 in
theorem zw_aci : Cond.initialized "java/lang/System" ∈ lw_tbl := List.mem_append_right _ (List.mem_of_getElem? (i := 19) (by decide +kernel))
set_option maxRecDepth 100000 in
set_option maxHeartbeats 4000000 in
theorem zw_mxs : Cond.static Lib.Math.max.name ∈ lw_tbl := List.mem_append_right _ (List.mem_of_getElem? (i := 484) (by decide +kernel))
set_option maxRecDepth 100000 in
set_option maxHeartbeats 4000000 in
theorem zw_mxc : Cond.code Lib.Math.max.name Lib.Math.max.code 2 (some .int) ∈ lw_tbl := List.mem_append_right _ (List.mem_of_getElem? (i := 485) (by decide +kernel))
set_option maxRecDepth 100000 in
set_option maxHeartbeats 4000000 in
theorem zw_mns : Cond.static Lib.Math.min.name ∈ lw_tbl := List.mem_append_right _ (List.mem_of_getElem? (i := 473) (by decide +kernel))
set_option maxRecDepth 100000 in
set_option maxHeartbeats 4000000 in
theorem zw_mnc : Cond.code Lib.Math.min.name Lib.Math.min.code 2 (some .int) ∈ lw_tbl := List.mem_append_right _ (List.mem_of_getElem? (i := 474) (by decide +kernel))
set_option maxRecDepth 100000 in
set_option maxHeartbeats 4000000 in
theorem zw_mi : Cond.initialized "java/lang/Math" ∈ lw_tbl := List.mem_append_right _ (List.mem_of_getElem? (i := 17) (by decide +kernel))
set_option maxRecDepth 100000 in
set_option maxHeartbeats 4000000 in
theorem zw_oi : Cond.instanceMethod objectInit ∈ lw_tbl := List.mem_append_right _ (List.mem_of_getElem? (i := 30) (by decide +kernel))
set_option maxRecDepth 100000 in
set_option maxHeartbeats 4000000 in
theorem zw_oc : Cond.code objectInit ⟨#[0xb1]⟩ 1 none ∈ lw_tbl := List.mem_append_right _ (List.mem_of_getElem? (i := 31) (by decide +kernel))
set_option maxRecDepth 100000 in
set_option maxHeartbeats 4000000 in
theorem zw_cln : Cond.native (⟨"java/lang/Object", "clone", "()Ljava/lang/Object;"⟩) ∈ lw_tbl := List.mem_append_right _ (List.mem_of_getElem? (i := 679) (by decide +kernel))
set_option maxRecDepth 100000 in
set_option maxHeartbeats 4000000 in
theorem zw_cli : Cond.instanceMethod (⟨"java/lang/Object", "clone", "()Ljava/lang/Object;"⟩) ∈ lw_tbl := List.mem_append_right _ (List.mem_of_getElem? (i := 680) (by decide +kernel))
set_option maxRecDepth 100000 in
set_option maxHeartbeats 4000000 in
theorem zw_csI : Cond.sameMethod "[I" "java/lang/Object" "clone" "()Ljava/lang/Object;" ∈ lw_tbl := List.mem_append_right _ (List.mem_of_getElem? (i := 678) (by decide +kernel))
set_option maxRecDepth 100000 in
set_option maxHeartbeats 4000000 in
theorem zw_cqI : Cond.selects "[I" ⟨"[I", "clone", "()Ljava/lang/Object;"⟩ (⟨"java/lang/Object", "clone", "()Ljava/lang/Object;"⟩) ∈ lw_tbl := List.mem_append_right _ (List.mem_of_getElem? (i := 681) (by decide +kernel))
set_option maxRecDepth 100000 in
set_option maxHeartbeats 4000000 in
theorem zw_ccI : Cond.castable "[I" "java/lang/Cloneable" ∈ lw_tbl := List.mem_append_right _ (List.mem_of_getElem? (i := 682) (by decide +kernel))
set_option maxRecDepth 100000 in
set_option maxHeartbeats 4000000 in
theorem zw_csB : Cond.sameMethod "[B" "java/lang/Object" "clone" "()Ljava/lang/Object;" ∈ lw_tbl := List.mem_append_right _ (List.mem_of_getElem? (i := 843) (by decide +kernel))
set_option maxRecDepth 100000 in
set_option maxHeartbeats 4000000 in
theorem zw_cqB : Cond.selects "[B" ⟨"[B", "clone", "()Ljava/lang/Object;"⟩ (⟨"java/lang/Object", "clone", "()Ljava/lang/Object;"⟩) ∈ lw_tbl := List.mem_append_right _ (List.mem_of_getElem? (i := 844) (by decide +kernel))
set_option maxRecDepth 100000 in
set_option maxHeartbeats 4000000 in
theorem zw_ccB : Cond.castable "[B" "java/lang/Cloneable" ∈ lw_tbl := List.mem_append_right _ (List.mem_of_getElem? (i := 845) (by decide +kernel))
/-- statics: own class, pool place, which (0 COMPACT_STRINGS, 1 SIOOBE_FORMATTER, 2 DigitOnes, 3 DigitTens) -/
def zUL0 : List (Nat × Nat × Nat) := [(15, 18, 0), (16, 83, 2), (16, 87, 3), (12, 1053, 1), (12, 38, 0)]
def zUP0 : List Nat := [789, 857, 859, 873, 915]
def zUw (q : Nat × Nat × Nat) : Cond := if q.2.2 = 0 then .fieldLink (zcn q.1) q.2.1 "java/lang/String" "COMPACT_STRINGS" "Z" else if q.2.2 = 1 then .fieldLink (zcn q.1) q.2.1 "jdk/internal/util/Preconditions" "SIOOBE_FORMATTER" "Ljava/util/function/BiFunction;" else if q.2.2 = 2 then .fieldLink (zcn q.1) q.2.1 "java/lang/Integer" "DigitOnes" "[B" else .fieldLink (zcn q.1) q.2.1 "java/lang/Integer" "DigitTens" "[B"
set_option maxRecDepth 100000 in
set_option maxHeartbeats 4000000 in
theorem zUok : ∀ q ∈ zUL0, zUw q ∈ lw_tbl := zin_of (P := zUP0) (by decide +kernel) (by decide +kernel)
def zsta (own ix : Nat) : Option Nat := (zUL0.find? fun q => q.1 == own && q.2.1 == ix).map fun q => q.2.2
set_option maxRecDepth 100000 in
set_option maxHeartbeats 4000000 in
theorem zw_ls0 : Cond.laysStatic "java/lang/String" "COMPACT_STRINGS" "Z" ∈ lw_tbl := List.mem_append_right _ (List.mem_of_getElem? (i := 790) (by decide +kernel))
set_option maxRecDepth 100000 in
set_option maxHeartbeats 4000000 in
theorem zw_li0 : Cond.initialized "java/lang/String" ∈ lw_tbl := List.mem_append_right _ (List.mem_of_getElem? (i := 14) (by decide +kernel))
set_option maxRecDepth 100000 in
set_option maxHeartbeats 4000000 in
theorem zw_ls1 : Cond.laysStatic "jdk/internal/util/Preconditions" "SIOOBE_FORMATTER" "Ljava/util/function/BiFunction;" ∈ lw_tbl := List.mem_append_right _ (List.mem_of_getElem? (i := 874) (by decide +kernel))
set_option maxRecDepth 100000 in
set_option maxHeartbeats 4000000 in
theorem zw_li1 : Cond.initialized "jdk/internal/util/Preconditions" ∈ lw_tbl := List.mem_append_right _ (List.mem_of_getElem? (i := 20) (by decide +kernel))
set_option maxRecDepth 100000 in
set_option maxHeartbeats 4000000 in
theorem zw_ls2 : Cond.laysStatic "java/lang/Integer" "DigitOnes" "[B" ∈ lw_tbl := List.mem_append_right _ (List.mem_of_getElem? (i := 858) (by decide +kernel))
set_option maxRecDepth 100000 in
set_option maxHeartbeats 4000000 in
theorem zw_li2 : Cond.initialized "java/lang/Integer" ∈ lw_tbl := List.mem_append_right _ (List.mem_of_getElem? (i := 22) (by decide +kernel))
set_option maxRecDepth 100000 in
set_option maxHeartbeats 4000000 in
theorem zw_ls3 : Cond.laysStatic "java/lang/Integer" "DigitTens" "[B" ∈ lw_tbl := List.mem_append_right _ (List.mem_of_getElem? (i := 860) (by decide +kernel))
set_option maxRecDepth 100000 in
set_option maxHeartbeats 4000000 in
theorem zw_li3 : Cond.initialized "java/lang/Integer" ∈ lw_tbl := List.mem_append_right _ (List.mem_of_getElem? (i := 22) (by decide +kernel))
def zASB : Nat := 15
def zSBC : Nat := 11
/-- methods of AbstractStringBuilder on a StringBuilder: the one named, the one run, private or not -/
def zVL : List (Nat × Nat × Bool) := [(122, 122, true), (123, 123, true), (126, 126, false), (130, 130, true), (131, 131, true), (136, 136, false), (139, 137, false)]
def zVP : List Nat := [823, 827, 852, 917, 921, 967, 972]
def zVw (q : Nat × Nat × Bool) : Cond := if q.2.2 = true then .privateMethod (zname q.1) else .selects "java/lang/StringBuilder" (zname q.1) (zname q.2.1)
set_option maxRecDepth 100000 in
set_option maxHeartbeats 4000000 in
theorem zVok : ∀ q ∈ zVL, zVw q ∈ lw_tbl := zin_of (P := zVP) (by decide +kernel) (by decide +kernel)
def zVT : List Nat := [1258, 1259, 851, 1262, 1263, 966, 971]
def zVt (q : Nat × Nat × Bool) : Cond := .sameMethod (zname q.1).cls "java/lang/AbstractStringBuilder" (zname q.1).name (zname q.1).desc
set_option maxRecDepth 100000 in
set_option maxHeartbeats 4000000 in
theorem zVtok : ∀ q ∈ zVL, zVt q ∈ lw_tbl := zin_of (P := zVT) (by decide +kernel) (by decide +kernel)
def zvir (k : Nat) : Option (Nat × Bool) := (zVL.find? fun q => q.1 == k).map fun q => (q.2.1, q.2.2)
set_option maxRecDepth 100000 in
set_option maxHeartbeats 4000000 in
theorem zVfact : ∀ q ∈ zVL, q.1 < 152 ∧ q.2.1 < 152 ∧ (zname q.1).cls = "java/lang/AbstractStringBuilder" ∧ (q.2.2 = true → q.2.1 = q.1) ∧ zkind q.1 = 1 ∧ zkind q.2.1 = 1 ∧ znar q.2.1 = znar q.1 ∧ (q.2.1 = q.1 ∨ (zname q.2.1).cls = "java/lang/StringBuilder")  := by decide +kernel
/-- methods of AbstractStringBuilder called by super -/
def zSUL : List Nat := [120, 129, 139]
def zSUP : List Nat := [1257, 1260, 971]
def zSUw (k : Nat) : Cond := .sameMethod (zname k).cls (zname k).cls (zname k).name (zname k).desc
set_option maxRecDepth 100000 in
set_option maxHeartbeats 4000000 in
theorem zSUok : ∀ q ∈ zSUL, zSUw q ∈ lw_tbl := zin_of (P := zSUP) (by decide +kernel) (by decide +kernel)
set_option maxRecDepth 100000 in
set_option maxHeartbeats 4000000 in
theorem zSUfact : ∀ k ∈ zSUL, k < 152 ∧ (zname k).cls = "java/lang/AbstractStringBuilder" ∧ (zname k).name ≠ "<init>" ∧ zkind k = 1 := by decide +kernel
set_option maxRecDepth 100000 in
set_option maxHeartbeats 4000000 in
theorem zw_sup : Cond.superclass "java/lang/StringBuilder" "java/lang/AbstractStringBuilder" ∈ lw_tbl := List.mem_append_right _ (List.mem_of_getElem? (i := 810) (by decide +kernel))
set_option maxRecDepth 100000 in
set_option maxHeartbeats 4000000 in
theorem zw_insS : Cond.instantiable "java/lang/StringBuilder" 4 ∈ lw_tbl := List.mem_append_right _ (List.mem_of_getElem? (i := 781) (by decide +kernel))
