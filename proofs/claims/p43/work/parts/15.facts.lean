-- ===== FACTS of the tables and of the heap that stands, as the walks name them =====
theorem zin_lt {i : Int32} {n : Nat} (h : zin i n = true) : ¬ i < 0 ∧ zi i < n := by
  have h := of_decide_eq_true h
  exact ⟨fun h1 => h (Or.inl h1), Nat.lt_of_not_le fun h1 => h (Or.inr h1)⟩
def zRL : List (Nat × Nat × Nat) := [(0, 0, 1), (0, 1, 42), (0, 3, 83), (0, 6, 114), (0, 7, 119), (0, 8, 147), (1, 0, 2), (1, 1, 7), (1, 2, 12), (1, 3, 21), (1, 4, 29), (1, 5, 34), (1, 6, 37), (1, 7, 38), (1, 8, 39), (1, 9, 40), (1, 10, 41), (2, 0, 3), (2, 1, 4), (2, 2, 5), (2, 3, 6), (7, 0, 8), (7, 1, 9), (7, 2, 10), (7, 3, 11), (12, 0, 13), (12, 1, 17), (12, 2, 18), (12, 3, 19), (12, 4, 20), (13, 0, 14), (13, 1, 15), (13, 2, 16), (21, 0, 22), (21, 1, 23), (21, 2, 24), (21, 3, 25), (21, 4, 26), (21, 5, 27), (21, 7, 28), (29, 0, 30), (30, 0, 31), (30, 1, 32), (30, 2, 33), (34, 0, 35), (34, 1, 36), (42, 0, 43), (42, 1, 48), (42, 2, 53), (42, 3, 62), (42, 4, 70), (42, 5, 75), (42, 6, 78), (42, 7, 79), (42, 8, 80), (42, 9, 81), (42, 10, 82), (43, 0, 44), (43, 1, 45), (43, 2, 46), (43, 3, 47), (48, 0, 49), (48, 1, 50), (48, 2, 51), (48, 3, 52), (53, 0, 54), (53, 1, 58), (53, 2, 59), (53, 3, 60), (53, 4, 61), (54, 0, 55), (54, 1, 56), (54, 2, 57), (62, 0, 63), (62, 1, 64), (62, 2, 65), (62, 3, 66), (62, 4, 67), (62, 5, 68), (62, 7, 69), (70, 0, 71), (71, 0, 72), (71, 1, 73), (71, 2, 74), (75, 0, 76), (75, 1, 77), (83, 0, 84), (83, 1, 89), (83, 2, 94), (83, 3, 99), (83, 4, 104), (83, 5, 109), (84, 0, 85), (84, 1, 86), (84, 2, 87), (84, 3, 88), (89, 0, 90), (89, 1, 91), (89, 2, 92), (89, 3, 93), (94, 0, 95), (94, 1, 96), (94, 2, 97), (94, 3, 98), (99, 0, 100), (99, 1, 101), (99, 2, 102), (99, 3, 103), (104, 0, 105), (104, 1, 106), (104, 2, 107), (104, 3, 108), (109, 0, 110), (109, 1, 111), (109, 2, 112), (109, 3, 113), (114, 0, 115), (114, 1, 116), (114, 2, 117), (114, 3, 118), (119, 0, 120), (119, 2, 121), (119, 3, 122), (119, 4, 123), (119, 12, 124), (119, 13, 133), (119, 14, 134), (119, 15, 142), (124, 0, 125), (124, 1, 129), (124, 2, 130), (124, 3, 131), (124, 4, 132), (125, 0, 126), (125, 1, 127), (125, 2, 128), (134, 0, 135), (134, 1, 136), (134, 2, 137), (134, 3, 138), (134, 4, 139), (134, 5, 140), (134, 7, 141), (142, 0, 143), (143, 0, 144), (143, 1, 145), (143, 2, 146)]
def zRm (o k v : Nat) : Bool := zRL.any fun z => Nat.beq z.1 o && Nat.beq z.2.1 k && Nat.beq z.2.2 v
theorem zRm_mem {o k v : Nat} (h : zRm o k v = true) : (o, k, v) ∈ zRL := by
  obtain ⟨z, hz, h1⟩ := List.any_eq_true.mp h
  simp only [Bool.and_eq_true, Nat.beq_eq] at h1
  obtain ⟨⟨rfl, rfl⟩, rfl⟩ := h1
  exact hz
def zLay (q : ZQ) : Prop := ∀ z ∈ zRL, q.2.1 z.1 z.2.1 = some z.2.2
theorem zo_0 : zOb 0 0 := ⟨by decide, rfl⟩
theorem zo_1 : zOb 1 1 := ⟨by decide, rfl⟩
theorem zo_2 : zOb 2 2 := ⟨by decide, rfl⟩
theorem za_3 : zAr 3 10 := ⟨by decide, rfl⟩
theorem za_4 : zAr 4 10 := ⟨by decide, rfl⟩
theorem za_5 : zAr 5 10 := ⟨by decide, rfl⟩
theorem za_6 : zAr 6 10 := ⟨by decide, rfl⟩
theorem zo_7 : zOb 3 7 := ⟨by decide, rfl⟩
theorem za_8 : zAr 8 150 := ⟨by decide, rfl⟩
theorem za_9 : zAr 9 150 := ⟨by decide, rfl⟩
theorem za_10 : zAr 10 150 := ⟨by decide, rfl⟩
theorem za_11 : zAr 11 150 := ⟨by decide, rfl⟩
theorem zo_12 : zOb 4 12 := ⟨by decide, rfl⟩
theorem zo_13 : zOb 5 13 := ⟨by decide, rfl⟩
theorem za_14 : zAr 14 400 := ⟨by decide, rfl⟩
theorem za_15 : zAr 15 400 := ⟨by decide, rfl⟩
theorem za_16 : zAr 16 64 := ⟨by decide, rfl⟩
theorem za_17 : zAr 17 16 := ⟨by decide, rfl⟩
theorem za_18 : zAr 18 16 := ⟨by decide, rfl⟩
theorem za_19 : zAr 19 16 := ⟨by decide, rfl⟩
theorem za_20 : zAr 20 16 := ⟨by decide, rfl⟩
theorem zo_21 : zOb 6 21 := ⟨by decide, rfl⟩
theorem za_22 : zAr 22 12 := ⟨by decide, rfl⟩
theorem za_23 : zAr 23 12 := ⟨by decide, rfl⟩
theorem za_24 : zAr 24 12 := ⟨by decide, rfl⟩
theorem za_25 : zAr 25 12 := ⟨by decide, rfl⟩
theorem za_26 : zAr 26 12 := ⟨by decide, rfl⟩
theorem za_27 : zAr 27 12 := ⟨by decide, rfl⟩
theorem za_28 : zAr 28 12 := ⟨by decide, rfl⟩
theorem zo_29 : zOb 7 29 := ⟨by decide, rfl⟩
theorem zo_30 : zOb 5 30 := ⟨by decide, rfl⟩
theorem za_31 : zAr 31 400 := ⟨by decide, rfl⟩
theorem za_32 : zAr 32 400 := ⟨by decide, rfl⟩
theorem za_33 : zAr 33 64 := ⟨by decide, rfl⟩
theorem zo_34 : zOb 8 34 := ⟨by decide, rfl⟩
theorem za_35 : zAr 35 8 := ⟨by decide, rfl⟩
theorem za_36 : zAr 36 8 := ⟨by decide, rfl⟩
theorem za_37 : zAr 37 10 := ⟨by decide, rfl⟩
theorem za_38 : zAr 38 10 := ⟨by decide, rfl⟩
theorem za_39 : zAr 39 10 := ⟨by decide, rfl⟩
theorem za_40 : zAr 40 10 := ⟨by decide, rfl⟩
theorem za_41 : zAr 41 9 := ⟨by decide, rfl⟩
theorem zo_42 : zOb 1 42 := ⟨by decide, rfl⟩
theorem zo_43 : zOb 2 43 := ⟨by decide, rfl⟩
theorem za_44 : zAr 44 10 := ⟨by decide, rfl⟩
theorem za_45 : zAr 45 10 := ⟨by decide, rfl⟩
theorem za_46 : zAr 46 10 := ⟨by decide, rfl⟩
theorem za_47 : zAr 47 10 := ⟨by decide, rfl⟩
theorem zo_48 : zOb 3 48 := ⟨by decide, rfl⟩
theorem za_49 : zAr 49 150 := ⟨by decide, rfl⟩
theorem za_50 : zAr 50 150 := ⟨by decide, rfl⟩
theorem za_51 : zAr 51 150 := ⟨by decide, rfl⟩
theorem za_52 : zAr 52 150 := ⟨by decide, rfl⟩
theorem zo_53 : zOb 4 53 := ⟨by decide, rfl⟩
theorem zo_54 : zOb 5 54 := ⟨by decide, rfl⟩
theorem za_55 : zAr 55 400 := ⟨by decide, rfl⟩
theorem za_56 : zAr 56 400 := ⟨by decide, rfl⟩
theorem za_57 : zAr 57 64 := ⟨by decide, rfl⟩
theorem za_58 : zAr 58 16 := ⟨by decide, rfl⟩
theorem za_59 : zAr 59 16 := ⟨by decide, rfl⟩
theorem za_60 : zAr 60 16 := ⟨by decide, rfl⟩
theorem za_61 : zAr 61 16 := ⟨by decide, rfl⟩
theorem zo_62 : zOb 6 62 := ⟨by decide, rfl⟩
theorem za_63 : zAr 63 12 := ⟨by decide, rfl⟩
theorem za_64 : zAr 64 12 := ⟨by decide, rfl⟩
theorem za_65 : zAr 65 12 := ⟨by decide, rfl⟩
theorem za_66 : zAr 66 12 := ⟨by decide, rfl⟩
theorem za_67 : zAr 67 12 := ⟨by decide, rfl⟩
theorem za_68 : zAr 68 12 := ⟨by decide, rfl⟩
theorem za_69 : zAr 69 12 := ⟨by decide, rfl⟩
theorem zo_70 : zOb 7 70 := ⟨by decide, rfl⟩
theorem zo_71 : zOb 5 71 := ⟨by decide, rfl⟩
theorem za_72 : zAr 72 400 := ⟨by decide, rfl⟩
theorem za_73 : zAr 73 400 := ⟨by decide, rfl⟩
theorem za_74 : zAr 74 64 := ⟨by decide, rfl⟩
theorem zo_75 : zOb 8 75 := ⟨by decide, rfl⟩
theorem za_76 : zAr 76 8 := ⟨by decide, rfl⟩
theorem za_77 : zAr 77 8 := ⟨by decide, rfl⟩
theorem za_78 : zAr 78 10 := ⟨by decide, rfl⟩
theorem za_79 : zAr 79 10 := ⟨by decide, rfl⟩
theorem za_80 : zAr 80 10 := ⟨by decide, rfl⟩
theorem za_81 : zAr 81 10 := ⟨by decide, rfl⟩
theorem za_82 : zAr 82 9 := ⟨by decide, rfl⟩
theorem zp_83 : 83 < 1000000 ∧ zHc[83]? = some (2, 6) := ⟨by decide, rfl⟩
theorem zo_84 : zOb 2 84 := ⟨by decide, rfl⟩
theorem za_85 : zAr 85 10 := ⟨by decide, rfl⟩
theorem za_86 : zAr 86 10 := ⟨by decide, rfl⟩
theorem za_87 : zAr 87 10 := ⟨by decide, rfl⟩
theorem za_88 : zAr 88 10 := ⟨by decide, rfl⟩
theorem zo_89 : zOb 2 89 := ⟨by decide, rfl⟩
theorem za_90 : zAr 90 10 := ⟨by decide, rfl⟩
theorem za_91 : zAr 91 10 := ⟨by decide, rfl⟩
theorem za_92 : zAr 92 10 := ⟨by decide, rfl⟩
theorem za_93 : zAr 93 10 := ⟨by decide, rfl⟩
theorem zo_94 : zOb 2 94 := ⟨by decide, rfl⟩
theorem za_95 : zAr 95 10 := ⟨by decide, rfl⟩
theorem za_96 : zAr 96 10 := ⟨by decide, rfl⟩
theorem za_97 : zAr 97 10 := ⟨by decide, rfl⟩
theorem za_98 : zAr 98 10 := ⟨by decide, rfl⟩
theorem zo_99 : zOb 2 99 := ⟨by decide, rfl⟩
theorem za_100 : zAr 100 10 := ⟨by decide, rfl⟩
theorem za_101 : zAr 101 10 := ⟨by decide, rfl⟩
theorem za_102 : zAr 102 10 := ⟨by decide, rfl⟩
theorem za_103 : zAr 103 10 := ⟨by decide, rfl⟩
theorem zo_104 : zOb 2 104 := ⟨by decide, rfl⟩
theorem za_105 : zAr 105 10 := ⟨by decide, rfl⟩
theorem za_106 : zAr 106 10 := ⟨by decide, rfl⟩
theorem za_107 : zAr 107 10 := ⟨by decide, rfl⟩
theorem za_108 : zAr 108 10 := ⟨by decide, rfl⟩
theorem zo_109 : zOb 2 109 := ⟨by decide, rfl⟩
theorem za_110 : zAr 110 10 := ⟨by decide, rfl⟩
theorem za_111 : zAr 111 10 := ⟨by decide, rfl⟩
theorem za_112 : zAr 112 10 := ⟨by decide, rfl⟩
theorem za_113 : zAr 113 10 := ⟨by decide, rfl⟩
theorem zo_114 : zOb 2 114 := ⟨by decide, rfl⟩
theorem za_115 : zAr 115 10 := ⟨by decide, rfl⟩
theorem za_116 : zAr 116 10 := ⟨by decide, rfl⟩
theorem za_117 : zAr 117 10 := ⟨by decide, rfl⟩
theorem za_118 : zAr 118 10 := ⟨by decide, rfl⟩
theorem zo_119 : zOb 9 119 := ⟨by decide, rfl⟩
theorem za_120 : zAr 120 400 := ⟨by decide, rfl⟩
theorem za_121 : zAr 121 401 := ⟨by decide, rfl⟩
theorem za_122 : zAr 122 401 := ⟨by decide, rfl⟩
theorem za_123 : zAr 123 401 := ⟨by decide, rfl⟩
theorem zo_124 : zOb 4 124 := ⟨by decide, rfl⟩
theorem zo_125 : zOb 5 125 := ⟨by decide, rfl⟩
theorem za_126 : zAr 126 400 := ⟨by decide, rfl⟩
theorem za_127 : zAr 127 400 := ⟨by decide, rfl⟩
theorem za_128 : zAr 128 64 := ⟨by decide, rfl⟩
theorem za_129 : zAr 129 16 := ⟨by decide, rfl⟩
theorem za_130 : zAr 130 16 := ⟨by decide, rfl⟩
theorem za_131 : zAr 131 16 := ⟨by decide, rfl⟩
theorem za_132 : zAr 132 16 := ⟨by decide, rfl⟩
theorem za_133 : zAr 133 10 := ⟨by decide, rfl⟩
theorem zo_134 : zOb 6 134 := ⟨by decide, rfl⟩
theorem za_135 : zAr 135 12 := ⟨by decide, rfl⟩
theorem za_136 : zAr 136 12 := ⟨by decide, rfl⟩
theorem za_137 : zAr 137 12 := ⟨by decide, rfl⟩
theorem za_138 : zAr 138 12 := ⟨by decide, rfl⟩
theorem za_139 : zAr 139 12 := ⟨by decide, rfl⟩
theorem za_140 : zAr 140 12 := ⟨by decide, rfl⟩
theorem za_141 : zAr 141 12 := ⟨by decide, rfl⟩
theorem zo_142 : zOb 7 142 := ⟨by decide, rfl⟩
theorem zo_143 : zOb 5 143 := ⟨by decide, rfl⟩
theorem za_144 : zAr 144 400 := ⟨by decide, rfl⟩
theorem za_145 : zAr 145 400 := ⟨by decide, rfl⟩
theorem za_146 : zAr 146 64 := ⟨by decide, rfl⟩
theorem zb_147 : zBr 147 1024 := ⟨by decide, rfl⟩
theorem zo_pa {i : Int32} (h : zin i 6 = true) : zOb 2 (zpa i) := by
  have hd : ∀ j < 6, 84 + 5 * j < 1000000 ∧ zHc[84 + 5 * j]? = some (5, 11) := by decide
  exact hd _ (zin_lt h).2
theorem zr_pa {q : ZQ} (hL : zLay q) {i : Int32} (h : zin i 6 = true) : q.2.1 83 (zi i) = some (zpa i) := by
  have hd : ∀ j < 6, zRm 83 j (84 + 5 * j) = true := by decide +kernel
  exact hL _ (zRm_mem (hd _ (zin_lt h).2))
theorem zH0_lt {o : Nat} {x : Nat × Nat} (h : zHc[o]? = some x) : o < 148 := by
  obtain ⟨h1, _⟩ := List.getElem?_eq_some_iff.mp h
  exact h1
theorem zr_0_0 {q : ZQ} (hL : zLay q) {o : Nat} (h : zOb 0 o) : q.2.1 o 0 = some (o + 1) := by
  have hd : ∀ o < 148, zHc[o]? = some (3, 9) → zRm o 0 (o + 1) = true := by decide +kernel
  exact hL _ (zRm_mem (hd o (zH0_lt h.2) h.2))
theorem zr_0_3 {q : ZQ} (hL : zLay q) {o : Nat} (h : zOb 0 o) : q.2.1 o 3 = some (o + 83) := by
  have hd : ∀ o < 148, zHc[o]? = some (3, 9) → zRm o 3 (o + 83) = true := by decide +kernel
  exact hL _ (zRm_mem (hd o (zH0_lt h.2) h.2))
theorem zr_0_7 {q : ZQ} (hL : zLay q) {o : Nat} (h : zOb 0 o) : q.2.1 o 7 = some (o + 119) := by
  have hd : ∀ o < 148, zHc[o]? = some (3, 9) → zRm o 7 (o + 119) = true := by decide +kernel
  exact hL _ (zRm_mem (hd o (zH0_lt h.2) h.2))
theorem zr_1_0 {q : ZQ} (hL : zLay q) {o : Nat} (h : zOb 1 o) : q.2.1 o 0 = some (o + 1) := by
  have hd : ∀ o < 148, zHc[o]? = some (4, 16) → zRm o 0 (o + 1) = true := by decide +kernel
  exact hL _ (zRm_mem (hd o (zH0_lt h.2) h.2))
theorem zso_1_0 {o : Nat} (h : zOb 1 o) : zOb 2 (o + 1) := by
  have hd : ∀ o < 148, zHc[o]? = some (4, 16) → o + 1 < 1000000 ∧ zHc[o + 1]? = some (5, 11) := by decide +kernel
  exact hd o (zH0_lt h.2) h.2
theorem zr_1_1 {q : ZQ} (hL : zLay q) {o : Nat} (h : zOb 1 o) : q.2.1 o 1 = some (o + 6) := by
  have hd : ∀ o < 148, zHc[o]? = some (4, 16) → zRm o 1 (o + 6) = true := by decide +kernel
  exact hL _ (zRm_mem (hd o (zH0_lt h.2) h.2))
theorem zso_1_1 {o : Nat} (h : zOb 1 o) : zOb 3 (o + 6) := by
  have hd : ∀ o < 148, zHc[o]? = some (4, 16) → o + 6 < 1000000 ∧ zHc[o + 6]? = some (6, 4) := by decide +kernel
  exact hd o (zH0_lt h.2) h.2
theorem zr_1_2 {q : ZQ} (hL : zLay q) {o : Nat} (h : zOb 1 o) : q.2.1 o 2 = some (o + 11) := by
  have hd : ∀ o < 148, zHc[o]? = some (4, 16) → zRm o 2 (o + 11) = true := by decide +kernel
  exact hL _ (zRm_mem (hd o (zH0_lt h.2) h.2))
theorem zso_1_2 {o : Nat} (h : zOb 1 o) : zOb 4 (o + 11) := by
  have hd : ∀ o < 148, zHc[o]? = some (4, 16) → o + 11 < 1000000 ∧ zHc[o + 11]? = some (7, 6) := by decide +kernel
  exact hd o (zH0_lt h.2) h.2
theorem zr_1_3 {q : ZQ} (hL : zLay q) {o : Nat} (h : zOb 1 o) : q.2.1 o 3 = some (o + 20) := by
  have hd : ∀ o < 148, zHc[o]? = some (4, 16) → zRm o 3 (o + 20) = true := by decide +kernel
  exact hL _ (zRm_mem (hd o (zH0_lt h.2) h.2))
theorem zso_1_3 {o : Nat} (h : zOb 1 o) : zOb 6 (o + 20) := by
  have hd : ∀ o < 148, zHc[o]? = some (4, 16) → o + 20 < 1000000 ∧ zHc[o + 20]? = some (9, 10) := by decide +kernel
  exact hd o (zH0_lt h.2) h.2
theorem zr_1_4 {q : ZQ} (hL : zLay q) {o : Nat} (h : zOb 1 o) : q.2.1 o 4 = some (o + 28) := by
  have hd : ∀ o < 148, zHc[o]? = some (4, 16) → zRm o 4 (o + 28) = true := by decide +kernel
  exact hL _ (zRm_mem (hd o (zH0_lt h.2) h.2))
theorem zso_1_4 {o : Nat} (h : zOb 1 o) : zOb 7 (o + 28) := by
  have hd : ∀ o < 148, zHc[o]? = some (4, 16) → o + 28 < 1000000 ∧ zHc[o + 28]? = some (10, 2) := by decide +kernel
  exact hd o (zH0_lt h.2) h.2
theorem zr_1_5 {q : ZQ} (hL : zLay q) {o : Nat} (h : zOb 1 o) : q.2.1 o 5 = some (o + 33) := by
  have hd : ∀ o < 148, zHc[o]? = some (4, 16) → zRm o 5 (o + 33) = true := by decide +kernel
  exact hL _ (zRm_mem (hd o (zH0_lt h.2) h.2))
theorem zr_1_6 {q : ZQ} (hL : zLay q) {o : Nat} (h : zOb 1 o) : q.2.1 o 6 = some (o + 36) := by
  have hd : ∀ o < 148, zHc[o]? = some (4, 16) → zRm o 6 (o + 36) = true := by decide +kernel
  exact hL _ (zRm_mem (hd o (zH0_lt h.2) h.2))
theorem zsa_1_6 {o : Nat} (h : zOb 1 o) : zAr (o + 36) 10 := by
  have hd : ∀ o < 148, zHc[o]? = some (4, 16) → o + 36 < 1000000 ∧ zHc[o + 36]? = some (0, 10) := by decide +kernel
  exact hd o (zH0_lt h.2) h.2
theorem zr_1_7 {q : ZQ} (hL : zLay q) {o : Nat} (h : zOb 1 o) : q.2.1 o 7 = some (o + 37) := by
  have hd : ∀ o < 148, zHc[o]? = some (4, 16) → zRm o 7 (o + 37) = true := by decide +kernel
  exact hL _ (zRm_mem (hd o (zH0_lt h.2) h.2))
theorem zsa_1_7 {o : Nat} (h : zOb 1 o) : zAr (o + 37) 10 := by
  have hd : ∀ o < 148, zHc[o]? = some (4, 16) → o + 37 < 1000000 ∧ zHc[o + 37]? = some (0, 10) := by decide +kernel
  exact hd o (zH0_lt h.2) h.2
theorem zr_1_8 {q : ZQ} (hL : zLay q) {o : Nat} (h : zOb 1 o) : q.2.1 o 8 = some (o + 38) := by
  have hd : ∀ o < 148, zHc[o]? = some (4, 16) → zRm o 8 (o + 38) = true := by decide +kernel
  exact hL _ (zRm_mem (hd o (zH0_lt h.2) h.2))
theorem zsa_1_8 {o : Nat} (h : zOb 1 o) : zAr (o + 38) 10 := by
  have hd : ∀ o < 148, zHc[o]? = some (4, 16) → o + 38 < 1000000 ∧ zHc[o + 38]? = some (0, 10) := by decide +kernel
  exact hd o (zH0_lt h.2) h.2
theorem zr_1_9 {q : ZQ} (hL : zLay q) {o : Nat} (h : zOb 1 o) : q.2.1 o 9 = some (o + 39) := by
  have hd : ∀ o < 148, zHc[o]? = some (4, 16) → zRm o 9 (o + 39) = true := by decide +kernel
  exact hL _ (zRm_mem (hd o (zH0_lt h.2) h.2))
theorem zsa_1_9 {o : Nat} (h : zOb 1 o) : zAr (o + 39) 10 := by
  have hd : ∀ o < 148, zHc[o]? = some (4, 16) → o + 39 < 1000000 ∧ zHc[o + 39]? = some (0, 10) := by decide +kernel
  exact hd o (zH0_lt h.2) h.2
theorem zr_1_10 {q : ZQ} (hL : zLay q) {o : Nat} (h : zOb 1 o) : q.2.1 o 10 = some (o + 40) := by
  have hd : ∀ o < 148, zHc[o]? = some (4, 16) → zRm o 10 (o + 40) = true := by decide +kernel
  exact hL _ (zRm_mem (hd o (zH0_lt h.2) h.2))
theorem zsa_1_10 {o : Nat} (h : zOb 1 o) : zAr (o + 40) 9 := by
  have hd : ∀ o < 148, zHc[o]? = some (4, 16) → o + 40 < 1000000 ∧ zHc[o + 40]? = some (0, 9) := by decide +kernel
  exact hd o (zH0_lt h.2) h.2
theorem zr_2_0 {q : ZQ} (hL : zLay q) {o : Nat} (h : zOb 2 o) : q.2.1 o 0 = some (o + 1) := by
  have hd : ∀ o < 148, zHc[o]? = some (5, 11) → zRm o 0 (o + 1) = true := by decide +kernel
  exact hL _ (zRm_mem (hd o (zH0_lt h.2) h.2))
theorem zsa_2_0 {o : Nat} (h : zOb 2 o) : zAr (o + 1) 10 := by
  have hd : ∀ o < 148, zHc[o]? = some (5, 11) → o + 1 < 1000000 ∧ zHc[o + 1]? = some (0, 10) := by decide +kernel
  exact hd o (zH0_lt h.2) h.2
theorem zr_2_1 {q : ZQ} (hL : zLay q) {o : Nat} (h : zOb 2 o) : q.2.1 o 1 = some (o + 2) := by
  have hd : ∀ o < 148, zHc[o]? = some (5, 11) → zRm o 1 (o + 2) = true := by decide +kernel
  exact hL _ (zRm_mem (hd o (zH0_lt h.2) h.2))
theorem zsa_2_1 {o : Nat} (h : zOb 2 o) : zAr (o + 2) 10 := by
  have hd : ∀ o < 148, zHc[o]? = some (5, 11) → o + 2 < 1000000 ∧ zHc[o + 2]? = some (0, 10) := by decide +kernel
  exact hd o (zH0_lt h.2) h.2
theorem zr_2_2 {q : ZQ} (hL : zLay q) {o : Nat} (h : zOb 2 o) : q.2.1 o 2 = some (o + 3) := by
  have hd : ∀ o < 148, zHc[o]? = some (5, 11) → zRm o 2 (o + 3) = true := by decide +kernel
  exact hL _ (zRm_mem (hd o (zH0_lt h.2) h.2))
theorem zsa_2_2 {o : Nat} (h : zOb 2 o) : zAr (o + 3) 10 := by
  have hd : ∀ o < 148, zHc[o]? = some (5, 11) → o + 3 < 1000000 ∧ zHc[o + 3]? = some (0, 10) := by decide +kernel
  exact hd o (zH0_lt h.2) h.2
theorem zr_2_3 {q : ZQ} (hL : zLay q) {o : Nat} (h : zOb 2 o) : q.2.1 o 3 = some (o + 4) := by
  have hd : ∀ o < 148, zHc[o]? = some (5, 11) → zRm o 3 (o + 4) = true := by decide +kernel
  exact hL _ (zRm_mem (hd o (zH0_lt h.2) h.2))
theorem zsa_2_3 {o : Nat} (h : zOb 2 o) : zAr (o + 4) 10 := by
  have hd : ∀ o < 148, zHc[o]? = some (5, 11) → o + 4 < 1000000 ∧ zHc[o + 4]? = some (0, 10) := by decide +kernel
  exact hd o (zH0_lt h.2) h.2
theorem zr_3_0 {q : ZQ} (hL : zLay q) {o : Nat} (h : zOb 3 o) : q.2.1 o 0 = some (o + 1) := by
  have hd : ∀ o < 148, zHc[o]? = some (6, 4) → zRm o 0 (o + 1) = true := by decide +kernel
  exact hL _ (zRm_mem (hd o (zH0_lt h.2) h.2))
theorem zsa_3_0 {o : Nat} (h : zOb 3 o) : zAr (o + 1) 150 := by
  have hd : ∀ o < 148, zHc[o]? = some (6, 4) → o + 1 < 1000000 ∧ zHc[o + 1]? = some (0, 150) := by decide +kernel
  exact hd o (zH0_lt h.2) h.2
theorem zr_3_1 {q : ZQ} (hL : zLay q) {o : Nat} (h : zOb 3 o) : q.2.1 o 1 = some (o + 2) := by
  have hd : ∀ o < 148, zHc[o]? = some (6, 4) → zRm o 1 (o + 2) = true := by decide +kernel
  exact hL _ (zRm_mem (hd o (zH0_lt h.2) h.2))
theorem zsa_3_1 {o : Nat} (h : zOb 3 o) : zAr (o + 2) 150 := by
  have hd : ∀ o < 148, zHc[o]? = some (6, 4) → o + 2 < 1000000 ∧ zHc[o + 2]? = some (0, 150) := by decide +kernel
  exact hd o (zH0_lt h.2) h.2
theorem zr_3_2 {q : ZQ} (hL : zLay q) {o : Nat} (h : zOb 3 o) : q.2.1 o 2 = some (o + 3) := by
  have hd : ∀ o < 148, zHc[o]? = some (6, 4) → zRm o 2 (o + 3) = true := by decide +kernel
  exact hL _ (zRm_mem (hd o (zH0_lt h.2) h.2))
theorem zsa_3_2 {o : Nat} (h : zOb 3 o) : zAr (o + 3) 150 := by
  have hd : ∀ o < 148, zHc[o]? = some (6, 4) → o + 3 < 1000000 ∧ zHc[o + 3]? = some (0, 150) := by decide +kernel
  exact hd o (zH0_lt h.2) h.2
theorem zr_3_3 {q : ZQ} (hL : zLay q) {o : Nat} (h : zOb 3 o) : q.2.1 o 3 = some (o + 4) := by
  have hd : ∀ o < 148, zHc[o]? = some (6, 4) → zRm o 3 (o + 4) = true := by decide +kernel
  exact hL _ (zRm_mem (hd o (zH0_lt h.2) h.2))
theorem zsa_3_3 {o : Nat} (h : zOb 3 o) : zAr (o + 4) 150 := by
  have hd : ∀ o < 148, zHc[o]? = some (6, 4) → o + 4 < 1000000 ∧ zHc[o + 4]? = some (0, 150) := by decide +kernel
  exact hd o (zH0_lt h.2) h.2
theorem zr_4_0 {q : ZQ} (hL : zLay q) {o : Nat} (h : zOb 4 o) : q.2.1 o 0 = some (o + 1) := by
  have hd : ∀ o < 148, zHc[o]? = some (7, 6) → zRm o 0 (o + 1) = true := by decide +kernel
  exact hL _ (zRm_mem (hd o (zH0_lt h.2) h.2))
theorem zso_4_0 {o : Nat} (h : zOb 4 o) : zOb 5 (o + 1) := by
  have hd : ∀ o < 148, zHc[o]? = some (7, 6) → o + 1 < 1000000 ∧ zHc[o + 1]? = some (8, 4) := by decide +kernel
  exact hd o (zH0_lt h.2) h.2
theorem zr_4_1 {q : ZQ} (hL : zLay q) {o : Nat} (h : zOb 4 o) : q.2.1 o 1 = some (o + 5) := by
  have hd : ∀ o < 148, zHc[o]? = some (7, 6) → zRm o 1 (o + 5) = true := by decide +kernel
  exact hL _ (zRm_mem (hd o (zH0_lt h.2) h.2))
theorem zsa_4_1 {o : Nat} (h : zOb 4 o) : zAr (o + 5) 16 := by
  have hd : ∀ o < 148, zHc[o]? = some (7, 6) → o + 5 < 1000000 ∧ zHc[o + 5]? = some (0, 16) := by decide +kernel
  exact hd o (zH0_lt h.2) h.2
theorem zr_4_2 {q : ZQ} (hL : zLay q) {o : Nat} (h : zOb 4 o) : q.2.1 o 2 = some (o + 6) := by
  have hd : ∀ o < 148, zHc[o]? = some (7, 6) → zRm o 2 (o + 6) = true := by decide +kernel
  exact hL _ (zRm_mem (hd o (zH0_lt h.2) h.2))
theorem zsa_4_2 {o : Nat} (h : zOb 4 o) : zAr (o + 6) 16 := by
  have hd : ∀ o < 148, zHc[o]? = some (7, 6) → o + 6 < 1000000 ∧ zHc[o + 6]? = some (0, 16) := by decide +kernel
  exact hd o (zH0_lt h.2) h.2
theorem zr_4_3 {q : ZQ} (hL : zLay q) {o : Nat} (h : zOb 4 o) : q.2.1 o 3 = some (o + 7) := by
  have hd : ∀ o < 148, zHc[o]? = some (7, 6) → zRm o 3 (o + 7) = true := by decide +kernel
  exact hL _ (zRm_mem (hd o (zH0_lt h.2) h.2))
theorem zsa_4_3 {o : Nat} (h : zOb 4 o) : zAr (o + 7) 16 := by
  have hd : ∀ o < 148, zHc[o]? = some (7, 6) → o + 7 < 1000000 ∧ zHc[o + 7]? = some (0, 16) := by decide +kernel
  exact hd o (zH0_lt h.2) h.2
theorem zr_4_4 {q : ZQ} (hL : zLay q) {o : Nat} (h : zOb 4 o) : q.2.1 o 4 = some (o + 8) := by
  have hd : ∀ o < 148, zHc[o]? = some (7, 6) → zRm o 4 (o + 8) = true := by decide +kernel
  exact hL _ (zRm_mem (hd o (zH0_lt h.2) h.2))
theorem zsa_4_4 {o : Nat} (h : zOb 4 o) : zAr (o + 8) 16 := by
  have hd : ∀ o < 148, zHc[o]? = some (7, 6) → o + 8 < 1000000 ∧ zHc[o + 8]? = some (0, 16) := by decide +kernel
  exact hd o (zH0_lt h.2) h.2
theorem zr_5_0 {q : ZQ} (hL : zLay q) {o : Nat} (h : zOb 5 o) : q.2.1 o 0 = some (o + 1) := by
  have hd : ∀ o < 148, zHc[o]? = some (8, 4) → zRm o 0 (o + 1) = true := by decide +kernel
  exact hL _ (zRm_mem (hd o (zH0_lt h.2) h.2))
theorem zsa_5_0 {o : Nat} (h : zOb 5 o) : zAr (o + 1) 400 := by
  have hd : ∀ o < 148, zHc[o]? = some (8, 4) → o + 1 < 1000000 ∧ zHc[o + 1]? = some (0, 400) := by decide +kernel
  exact hd o (zH0_lt h.2) h.2
theorem zr_5_1 {q : ZQ} (hL : zLay q) {o : Nat} (h : zOb 5 o) : q.2.1 o 1 = some (o + 2) := by
  have hd : ∀ o < 148, zHc[o]? = some (8, 4) → zRm o 1 (o + 2) = true := by decide +kernel
  exact hL _ (zRm_mem (hd o (zH0_lt h.2) h.2))
theorem zsa_5_1 {o : Nat} (h : zOb 5 o) : zAr (o + 2) 400 := by
  have hd : ∀ o < 148, zHc[o]? = some (8, 4) → o + 2 < 1000000 ∧ zHc[o + 2]? = some (0, 400) := by decide +kernel
  exact hd o (zH0_lt h.2) h.2
theorem zr_5_2 {q : ZQ} (hL : zLay q) {o : Nat} (h : zOb 5 o) : q.2.1 o 2 = some (o + 3) := by
  have hd : ∀ o < 148, zHc[o]? = some (8, 4) → zRm o 2 (o + 3) = true := by decide +kernel
  exact hL _ (zRm_mem (hd o (zH0_lt h.2) h.2))
theorem zsa_5_2 {o : Nat} (h : zOb 5 o) : zAr (o + 3) 64 := by
  have hd : ∀ o < 148, zHc[o]? = some (8, 4) → o + 3 < 1000000 ∧ zHc[o + 3]? = some (0, 64) := by decide +kernel
  exact hd o (zH0_lt h.2) h.2
theorem zr_6_0 {q : ZQ} (hL : zLay q) {o : Nat} (h : zOb 6 o) : q.2.1 o 0 = some (o + 1) := by
  have hd : ∀ o < 148, zHc[o]? = some (9, 10) → zRm o 0 (o + 1) = true := by decide +kernel
  exact hL _ (zRm_mem (hd o (zH0_lt h.2) h.2))
theorem zsa_6_0 {o : Nat} (h : zOb 6 o) : zAr (o + 1) 12 := by
  have hd : ∀ o < 148, zHc[o]? = some (9, 10) → o + 1 < 1000000 ∧ zHc[o + 1]? = some (0, 12) := by decide +kernel
  exact hd o (zH0_lt h.2) h.2
theorem zr_6_1 {q : ZQ} (hL : zLay q) {o : Nat} (h : zOb 6 o) : q.2.1 o 1 = some (o + 2) := by
  have hd : ∀ o < 148, zHc[o]? = some (9, 10) → zRm o 1 (o + 2) = true := by decide +kernel
  exact hL _ (zRm_mem (hd o (zH0_lt h.2) h.2))
theorem zsa_6_1 {o : Nat} (h : zOb 6 o) : zAr (o + 2) 12 := by
  have hd : ∀ o < 148, zHc[o]? = some (9, 10) → o + 2 < 1000000 ∧ zHc[o + 2]? = some (0, 12) := by decide +kernel
  exact hd o (zH0_lt h.2) h.2
theorem zr_6_2 {q : ZQ} (hL : zLay q) {o : Nat} (h : zOb 6 o) : q.2.1 o 2 = some (o + 3) := by
  have hd : ∀ o < 148, zHc[o]? = some (9, 10) → zRm o 2 (o + 3) = true := by decide +kernel
  exact hL _ (zRm_mem (hd o (zH0_lt h.2) h.2))
theorem zsa_6_2 {o : Nat} (h : zOb 6 o) : zAr (o + 3) 12 := by
  have hd : ∀ o < 148, zHc[o]? = some (9, 10) → o + 3 < 1000000 ∧ zHc[o + 3]? = some (0, 12) := by decide +kernel
  exact hd o (zH0_lt h.2) h.2
theorem zr_6_3 {q : ZQ} (hL : zLay q) {o : Nat} (h : zOb 6 o) : q.2.1 o 3 = some (o + 4) := by
  have hd : ∀ o < 148, zHc[o]? = some (9, 10) → zRm o 3 (o + 4) = true := by decide +kernel
  exact hL _ (zRm_mem (hd o (zH0_lt h.2) h.2))
theorem zsa_6_3 {o : Nat} (h : zOb 6 o) : zAr (o + 4) 12 := by
  have hd : ∀ o < 148, zHc[o]? = some (9, 10) → o + 4 < 1000000 ∧ zHc[o + 4]? = some (0, 12) := by decide +kernel
  exact hd o (zH0_lt h.2) h.2
theorem zr_6_4 {q : ZQ} (hL : zLay q) {o : Nat} (h : zOb 6 o) : q.2.1 o 4 = some (o + 5) := by
  have hd : ∀ o < 148, zHc[o]? = some (9, 10) → zRm o 4 (o + 5) = true := by decide +kernel
  exact hL _ (zRm_mem (hd o (zH0_lt h.2) h.2))
theorem zsa_6_4 {o : Nat} (h : zOb 6 o) : zAr (o + 5) 12 := by
  have hd : ∀ o < 148, zHc[o]? = some (9, 10) → o + 5 < 1000000 ∧ zHc[o + 5]? = some (0, 12) := by decide +kernel
  exact hd o (zH0_lt h.2) h.2
theorem zr_6_5 {q : ZQ} (hL : zLay q) {o : Nat} (h : zOb 6 o) : q.2.1 o 5 = some (o + 6) := by
  have hd : ∀ o < 148, zHc[o]? = some (9, 10) → zRm o 5 (o + 6) = true := by decide +kernel
  exact hL _ (zRm_mem (hd o (zH0_lt h.2) h.2))
theorem zsa_6_5 {o : Nat} (h : zOb 6 o) : zAr (o + 6) 12 := by
  have hd : ∀ o < 148, zHc[o]? = some (9, 10) → o + 6 < 1000000 ∧ zHc[o + 6]? = some (0, 12) := by decide +kernel
  exact hd o (zH0_lt h.2) h.2
theorem zr_7_0 {q : ZQ} (hL : zLay q) {o : Nat} (h : zOb 7 o) : q.2.1 o 0 = some (o + 1) := by
  have hd : ∀ o < 148, zHc[o]? = some (10, 2) → zRm o 0 (o + 1) = true := by decide +kernel
  exact hL _ (zRm_mem (hd o (zH0_lt h.2) h.2))
theorem zso_7_0 {o : Nat} (h : zOb 7 o) : zOb 5 (o + 1) := by
  have hd : ∀ o < 148, zHc[o]? = some (10, 2) → o + 1 < 1000000 ∧ zHc[o + 1]? = some (8, 4) := by decide +kernel
  exact hd o (zH0_lt h.2) h.2
theorem zr_9_0 {q : ZQ} (hL : zLay q) {o : Nat} (h : zOb 9 o) : q.2.1 o 0 = some (o + 1) := by
  have hd : ∀ o < 148, zHc[o]? = some (12, 16) → zRm o 0 (o + 1) = true := by decide +kernel
  exact hL _ (zRm_mem (hd o (zH0_lt h.2) h.2))
theorem zsa_9_0 {o : Nat} (h : zOb 9 o) : zAr (o + 1) 400 := by
  have hd : ∀ o < 148, zHc[o]? = some (12, 16) → o + 1 < 1000000 ∧ zHc[o + 1]? = some (0, 400) := by decide +kernel
  exact hd o (zH0_lt h.2) h.2
theorem zr_9_2 {q : ZQ} (hL : zLay q) {o : Nat} (h : zOb 9 o) : q.2.1 o 2 = some (o + 2) := by
  have hd : ∀ o < 148, zHc[o]? = some (12, 16) → zRm o 2 (o + 2) = true := by decide +kernel
  exact hL _ (zRm_mem (hd o (zH0_lt h.2) h.2))
theorem zsa_9_2 {o : Nat} (h : zOb 9 o) : zAr (o + 2) 401 := by
  have hd : ∀ o < 148, zHc[o]? = some (12, 16) → o + 2 < 1000000 ∧ zHc[o + 2]? = some (0, 401) := by decide +kernel
  exact hd o (zH0_lt h.2) h.2
theorem zr_9_3 {q : ZQ} (hL : zLay q) {o : Nat} (h : zOb 9 o) : q.2.1 o 3 = some (o + 3) := by
  have hd : ∀ o < 148, zHc[o]? = some (12, 16) → zRm o 3 (o + 3) = true := by decide +kernel
  exact hL _ (zRm_mem (hd o (zH0_lt h.2) h.2))
theorem zsa_9_3 {o : Nat} (h : zOb 9 o) : zAr (o + 3) 401 := by
  have hd : ∀ o < 148, zHc[o]? = some (12, 16) → o + 3 < 1000000 ∧ zHc[o + 3]? = some (0, 401) := by decide +kernel
  exact hd o (zH0_lt h.2) h.2
theorem zr_9_4 {q : ZQ} (hL : zLay q) {o : Nat} (h : zOb 9 o) : q.2.1 o 4 = some (o + 4) := by
  have hd : ∀ o < 148, zHc[o]? = some (12, 16) → zRm o 4 (o + 4) = true := by decide +kernel
  exact hL _ (zRm_mem (hd o (zH0_lt h.2) h.2))
theorem zsa_9_4 {o : Nat} (h : zOb 9 o) : zAr (o + 4) 401 := by
  have hd : ∀ o < 148, zHc[o]? = some (12, 16) → o + 4 < 1000000 ∧ zHc[o + 4]? = some (0, 401) := by decide +kernel
  exact hd o (zH0_lt h.2) h.2
theorem zr_9_12 {q : ZQ} (hL : zLay q) {o : Nat} (h : zOb 9 o) : q.2.1 o 12 = some (o + 5) := by
  have hd : ∀ o < 148, zHc[o]? = some (12, 16) → zRm o 12 (o + 5) = true := by decide +kernel
  exact hL _ (zRm_mem (hd o (zH0_lt h.2) h.2))
theorem zso_9_12 {o : Nat} (h : zOb 9 o) : zOb 4 (o + 5) := by
  have hd : ∀ o < 148, zHc[o]? = some (12, 16) → o + 5 < 1000000 ∧ zHc[o + 5]? = some (7, 6) := by decide +kernel
  exact hd o (zH0_lt h.2) h.2
theorem zr_9_13 {q : ZQ} (hL : zLay q) {o : Nat} (h : zOb 9 o) : q.2.1 o 13 = some (o + 14) := by
  have hd : ∀ o < 148, zHc[o]? = some (12, 16) → zRm o 13 (o + 14) = true := by decide +kernel
  exact hL _ (zRm_mem (hd o (zH0_lt h.2) h.2))
theorem zsa_9_13 {o : Nat} (h : zOb 9 o) : zAr (o + 14) 10 := by
  have hd : ∀ o < 148, zHc[o]? = some (12, 16) → o + 14 < 1000000 ∧ zHc[o + 14]? = some (0, 10) := by decide +kernel
  exact hd o (zH0_lt h.2) h.2
theorem zr_9_14 {q : ZQ} (hL : zLay q) {o : Nat} (h : zOb 9 o) : q.2.1 o 14 = some (o + 15) := by
  have hd : ∀ o < 148, zHc[o]? = some (12, 16) → zRm o 14 (o + 15) = true := by decide +kernel
  exact hL _ (zRm_mem (hd o (zH0_lt h.2) h.2))
theorem zso_9_14 {o : Nat} (h : zOb 9 o) : zOb 6 (o + 15) := by
  have hd : ∀ o < 148, zHc[o]? = some (12, 16) → o + 15 < 1000000 ∧ zHc[o + 15]? = some (9, 10) := by decide +kernel
  exact hd o (zH0_lt h.2) h.2
theorem zr_9_15 {q : ZQ} (hL : zLay q) {o : Nat} (h : zOb 9 o) : q.2.1 o 15 = some (o + 23) := by
  have hd : ∀ o < 148, zHc[o]? = some (12, 16) → zRm o 15 (o + 23) = true := by decide +kernel
  exact hL _ (zRm_mem (hd o (zH0_lt h.2) h.2))
theorem zso_9_15 {o : Nat} (h : zOb 9 o) : zOb 7 (o + 23) := by
  have hd : ∀ o < 148, zHc[o]? = some (12, 16) → o + 23 < 1000000 ∧ zHc[o + 23]? = some (10, 2) := by decide +kernel
  exact hd o (zH0_lt h.2) h.2
theorem ow_0 : zown 0 = 0 := rfl
theorem rt_0 : zret 0 = none := rfl
theorem kk_0 : 0 < 152 ∧ zkind 0 = 2 ∧ znar 0 = 0 ∧ zml 0 = 2 := ⟨by decide, rfl, rfl, rfl⟩
theorem ow_1 : zown 1 = 1 := rfl
theorem rt_1 : zret 1 = none := rfl
theorem kk_1 : 1 < 152 ∧ zkind 1 = 2 ∧ znar 1 = 0 ∧ zml 1 = 1 := ⟨by decide, rfl, rfl, rfl⟩
theorem ow_2 : zown 2 = 2 := rfl
theorem rt_2 : zret 2 = none := rfl
theorem kk_2 : 2 < 152 ∧ zkind 2 = 2 ∧ znar 2 = 0 ∧ zml 2 = 1 := ⟨by decide, rfl, rfl, rfl⟩
theorem ow_3 : zown 3 = 3 := rfl
theorem rt_3 : zret 3 = none := rfl
theorem kk_3 : 3 < 152 ∧ zkind 3 = 2 ∧ znar 3 = 0 ∧ zml 3 = 1 := ⟨by decide, rfl, rfl, rfl⟩
theorem ow_4 : zown 4 = 4 := rfl
theorem rt_4 : zret 4 = none := rfl
theorem kk_4 : 4 < 152 ∧ zkind 4 = 2 ∧ znar 4 = 0 ∧ zml 4 = 1 := ⟨by decide, rfl, rfl, rfl⟩
theorem ow_5 : zown 5 = 5 := rfl
theorem rt_5 : zret 5 = none := rfl
theorem kk_5 : 5 < 152 ∧ zkind 5 = 2 ∧ znar 5 = 0 ∧ zml 5 = 1 := ⟨by decide, rfl, rfl, rfl⟩
theorem ow_6 : zown 6 = 6 := rfl
theorem rt_6 : zret 6 = none := rfl
theorem kk_6 : 6 < 152 ∧ zkind 6 = 2 ∧ znar 6 = 0 ∧ zml 6 = 1 := ⟨by decide, rfl, rfl, rfl⟩
theorem ow_7 : zown 7 = 7 := rfl
theorem rt_7 : zret 7 = none := rfl
theorem kk_7 : 7 < 152 ∧ zkind 7 = 2 ∧ znar 7 = 0 ∧ zml 7 = 1 := ⟨by decide, rfl, rfl, rfl⟩
theorem ow_8 : zown 8 = 8 := rfl
theorem rt_8 : zret 8 = none := rfl
theorem kk_8 : 8 < 152 ∧ zkind 8 = 2 ∧ znar 8 = 0 ∧ zml 8 = 1 := ⟨by decide, rfl, rfl, rfl⟩
theorem ow_9 : zown 9 = 9 := rfl
theorem rt_9 : zret 9 = none := rfl
theorem kk_9 : 9 < 152 ∧ zkind 9 = 2 ∧ znar 9 = 0 ∧ zml 9 = 1 := ⟨by decide, rfl, rfl, rfl⟩
theorem zdr_10 : zdir 10 = true := by decide +kernel
theorem ow_10 : zown 10 = 0 := rfl
theorem rt_10 : zret 10 = some .int := rfl
theorem kk_10 : 10 < 152 ∧ zkind 10 = 1 ∧ znar 10 = 1 ∧ zml 10 = 3 := ⟨by decide, rfl, rfl, rfl⟩
theorem zdr_11 : zdir 11 = true := by decide +kernel
theorem ow_11 : zown 11 = 0 := rfl
theorem rt_11 : zret 11 = none := rfl
theorem kk_11 : 11 < 152 ∧ zkind 11 = 1 ∧ znar 11 = 0 ∧ zml 11 = 1 := ⟨by decide, rfl, rfl, rfl⟩
theorem zdr_12 : zdir 12 = true := by decide +kernel
theorem ow_12 : zown 12 = 0 := rfl
theorem rt_12 : zret 12 = some .int := rfl
theorem kk_12 : 12 < 152 ∧ zkind 12 = 1 ∧ znar 12 = 2 ∧ zml 12 = 3 := ⟨by decide, rfl, rfl, rfl⟩
theorem ow_13 : zown 13 = 0 := rfl
theorem rt_13 : zret 13 = some .boolean := rfl
theorem kk_13 : 13 < 152 ∧ zkind 13 = 0 ∧ znar 13 = 3 ∧ zml 13 = 3 := ⟨by decide, rfl, rfl, rfl⟩
theorem zdr_14 : zdir 14 = true := by decide +kernel
theorem ow_14 : zown 14 = 1 := rfl
theorem rt_14 : zret 14 = some .int := rfl
theorem kk_14 : 14 < 152 ∧ zkind 14 = 1 ∧ znar 14 = 2 ∧ zml 14 = 4 := ⟨by decide, rfl, rfl, rfl⟩
theorem zdr_15 : zdir 15 = true := by decide +kernel
theorem ow_15 : zown 15 = 0 := rfl
theorem rt_15 : zret 15 = some .boolean := rfl
theorem kk_15 : 15 < 152 ∧ zkind 15 = 1 ∧ znar 15 = 3 ∧ zml 15 = 4 := ⟨by decide, rfl, rfl, rfl⟩
theorem zdr_16 : zdir 16 = true := by decide +kernel
theorem ow_16 : zown 16 = 0 := rfl
theorem rt_16 : zret 16 = some .boolean := rfl
theorem kk_16 : 16 < 152 ∧ zkind 16 = 1 ∧ znar 16 = 3 ∧ zml 16 = 4 := ⟨by decide, rfl, rfl, rfl⟩
theorem zdr_17 : zdir 17 = true := by decide +kernel
theorem ow_17 : zown 17 = 1 := rfl
theorem rt_17 : zret 17 = some .boolean := rfl
theorem kk_17 : 17 < 152 ∧ zkind 17 = 1 ∧ znar 17 = 1 ∧ zml 17 = 2 := ⟨by decide, rfl, rfl, rfl⟩
theorem zdr_18 : zdir 18 = true := by decide +kernel
theorem ow_18 : zown 18 = 0 := rfl
theorem rt_18 : zret 18 = some .boolean := rfl
theorem kk_18 : 18 < 152 ∧ zkind 18 = 1 ∧ znar 18 = 3 ∧ zml 18 = 4 := ⟨by decide, rfl, rfl, rfl⟩
theorem ow_19 : zown 19 = 0 := rfl
theorem rt_19 : zret 19 = some .boolean := rfl
theorem kk_19 : 19 < 152 ∧ zkind 19 = 0 ∧ znar 19 = 2 ∧ zml 19 = 2 := ⟨by decide, rfl, rfl, rfl⟩
theorem zdr_20 : zdir 20 = true := by decide +kernel
theorem ow_20 : zown 20 = 0 := rfl
theorem rt_20 : zret 20 = none := rfl
theorem kk_20 : 20 < 152 ∧ zkind 20 = 1 ∧ znar 20 = 0 ∧ zml 20 = 2 := ⟨by decide, rfl, rfl, rfl⟩
theorem zdr_21 : zdir 21 = true := by decide +kernel
theorem ow_21 : zown 21 = 2 := rfl
theorem rt_21 : zret 21 = none := rfl
theorem kk_21 : 21 < 152 ∧ zkind 21 = 1 ∧ znar 21 = 1 ∧ zml 21 = 2 := ⟨by decide, rfl, rfl, rfl⟩
theorem zdr_22 : zdir 22 = true := by decide +kernel
theorem ow_22 : zown 22 = 0 := rfl
theorem rt_22 : zret 22 = some .int := rfl
theorem kk_22 : 22 < 152 ∧ zkind 22 = 1 ∧ znar 22 = 1 ∧ zml 22 = 2 := ⟨by decide, rfl, rfl, rfl⟩
theorem zdr_23 : zdir 23 = true := by decide +kernel
theorem ow_23 : zown 23 = 2 := rfl
theorem rt_23 : zret 23 = none := rfl
theorem kk_23 : 23 < 152 ∧ zkind 23 = 1 ∧ znar 23 = 1 ∧ zml 23 = 2 := ⟨by decide, rfl, rfl, rfl⟩
theorem zdr_24 : zdir 24 = true := by decide +kernel
theorem ow_24 : zown 24 = 0 := rfl
theorem rt_24 : zret 24 = some .int := rfl
theorem kk_24 : 24 < 152 ∧ zkind 24 = 1 ∧ znar 24 = 1 ∧ zml 24 = 4 := ⟨by decide, rfl, rfl, rfl⟩
theorem zdr_25 : zdir 25 = true := by decide +kernel
theorem ow_25 : zown 25 = 1 := rfl
theorem rt_25 : zret 25 = some .int := rfl
theorem kk_25 : 25 < 152 ∧ zkind 25 = 1 ∧ znar 25 = 2 ∧ zml 25 = 4 := ⟨by decide, rfl, rfl, rfl⟩
theorem zdr_26 : zdir 26 = true := by decide +kernel
theorem ow_26 : zown 26 = 1 := rfl
theorem rt_26 : zret 26 = none := rfl
theorem kk_26 : 26 < 152 ∧ zkind 26 = 1 ∧ znar 26 = 1 ∧ zml 26 = 3 := ⟨by decide, rfl, rfl, rfl⟩
theorem zdr_27 : zdir 27 = true := by decide +kernel
theorem ow_27 : zown 27 = 1 := rfl
theorem rt_27 : zret 27 = some .int := rfl
theorem kk_27 : 27 < 152 ∧ zkind 27 = 1 ∧ znar 27 = 4 ∧ zml 27 = 5 := ⟨by decide, rfl, rfl, rfl⟩
theorem ow_28 : zown 28 = 16 := rfl
theorem rt_28 : zret 28 = some .int := rfl
theorem kk_28 : 28 < 152 ∧ zkind 28 = 0 ∧ znar 28 = 1 ∧ zml 28 = 1 := ⟨by decide, rfl, rfl, rfl⟩
theorem zdr_29 : zdir 29 = true := by decide +kernel
theorem ow_29 : zown 29 = 4 := rfl
theorem rt_29 : zret 29 = some .int := rfl
theorem kk_29 : 29 < 152 ∧ zkind 29 = 1 ∧ znar 29 = 2 ∧ zml 29 = 5 := ⟨by decide, rfl, rfl, rfl⟩
theorem zdr_30 : zdir 30 = true := by decide +kernel
theorem ow_30 : zown 30 = 5 := rfl
theorem rt_30 : zret 30 = some .int := rfl
theorem kk_30 : 30 < 152 ∧ zkind 30 = 1 ∧ znar 30 = 4 ∧ zml 30 = 8 := ⟨by decide, rfl, rfl, rfl⟩
theorem ow_31 : zown 31 = 5 := rfl
theorem rt_31 : zret 31 = some .boolean := rfl
theorem kk_31 : 31 < 152 ∧ zkind 31 = 0 ∧ znar 31 = 1 ∧ zml 31 = 1 := ⟨by decide, rfl, rfl, rfl⟩
theorem ow_32 : zown 32 = 5 := rfl
theorem rt_32 : zret 32 = some .int := rfl
theorem kk_32 : 32 < 152 ∧ zkind 32 = 0 ∧ znar 32 = 4 ∧ zml 32 = 4 := ⟨by decide, rfl, rfl, rfl⟩
theorem ow_33 : zown 33 = 5 := rfl
theorem rt_33 : zret 33 = some .int := rfl
theorem kk_33 : 33 < 152 ∧ zkind 33 = 0 ∧ znar 33 = 3 ∧ zml 33 = 3 := ⟨by decide, rfl, rfl, rfl⟩
theorem ow_34 : zown 34 = 5 := rfl
theorem rt_34 : zret 34 = some .int := rfl
theorem kk_34 : 34 < 152 ∧ zkind 34 = 0 ∧ znar 34 = 3 ∧ zml 34 = 3 := ⟨by decide, rfl, rfl, rfl⟩
theorem ow_35 : zown 35 = 0 := rfl
theorem rt_35 : zret 35 = some .int := rfl
theorem kk_35 : 35 < 152 ∧ zkind 35 = 0 ∧ znar 35 = 3 ∧ zml 35 = 3 := ⟨by decide, rfl, rfl, rfl⟩
theorem zdr_36 : zdir 36 = true := by decide +kernel
theorem ow_36 : zown 36 = 1 := rfl
theorem rt_36 : zret 36 = some .int := rfl
theorem kk_36 : 36 < 152 ∧ zkind 36 = 1 ∧ znar 36 = 2 ∧ zml 36 = 9 := ⟨by decide, rfl, rfl, rfl⟩
theorem zdr_37 : zdir 37 = true := by decide +kernel
theorem ow_37 : zown 37 = 7 := rfl
theorem rt_37 : zret 37 = some .boolean := rfl
theorem kk_37 : 37 < 152 ∧ zkind 37 = 1 ∧ znar 37 = 1 ∧ zml 37 = 2 := ⟨by decide, rfl, rfl, rfl⟩
theorem zdr_38 : zdir 38 = true := by decide +kernel
theorem ow_38 : zown 38 = 1 := rfl
theorem rt_38 : zret 38 = none := rfl
theorem kk_38 : 38 < 152 ∧ zkind 38 = 1 ∧ znar 38 = 3 ∧ zml 38 = 9 := ⟨by decide, rfl, rfl, rfl⟩
theorem zdr_39 : zdir 39 = true := by decide +kernel
theorem ow_39 : zown 39 = 2 := rfl
theorem rt_39 : zret 39 = some .int := rfl
theorem kk_39 : 39 < 152 ∧ zkind 39 = 1 ∧ znar 39 = 0 ∧ zml 39 = 1 := ⟨by decide, rfl, rfl, rfl⟩
theorem zdr_40 : zdir 40 = true := by decide +kernel
theorem ow_40 : zown 40 = 6 := rfl
theorem rt_40 : zret 40 = some .int := rfl
theorem kk_40 : 40 < 152 ∧ zkind 40 = 1 ∧ znar 40 = 3 ∧ zml 40 = 12 := ⟨by decide, rfl, rfl, rfl⟩
theorem zdr_41 : zdir 41 = true := by decide +kernel
theorem ow_41 : zown 41 = 6 := rfl
theorem rt_41 : zret 41 = some .int := rfl
theorem kk_41 : 41 < 152 ∧ zkind 41 = 1 ∧ znar 41 = 2 ∧ zml 41 = 5 := ⟨by decide, rfl, rfl, rfl⟩
theorem zdr_42 : zdir 42 = true := by decide +kernel
theorem ow_42 : zown 42 = 6 := rfl
theorem rt_42 : zret 42 = some .int := rfl
theorem kk_42 : 42 < 152 ∧ zkind 42 = 1 ∧ znar 42 = 2 ∧ zml 42 = 5 := ⟨by decide, rfl, rfl, rfl⟩
theorem zdr_43 : zdir 43 = true := by decide +kernel
theorem ow_43 : zown 43 = 6 := rfl
theorem rt_43 : zret 43 = some .boolean := rfl
theorem kk_43 : 43 < 152 ∧ zkind 43 = 1 ∧ znar 43 = 2 ∧ zml 43 = 4 := ⟨by decide, rfl, rfl, rfl⟩
theorem zdr_44 : zdir 44 = true := by decide +kernel
theorem ow_44 : zown 44 = 2 := rfl
theorem rt_44 : zret 44 = some .int := rfl
theorem kk_44 : 44 < 152 ∧ zkind 44 = 1 ∧ znar 44 = 1 ∧ zml 44 = 2 := ⟨by decide, rfl, rfl, rfl⟩
theorem zdr_45 : zdir 45 = true := by decide +kernel
theorem ow_45 : zown 45 = 1 := rfl
theorem rt_45 : zret 45 = none := rfl
theorem kk_45 : 45 < 152 ∧ zkind 45 = 1 ∧ znar 45 = 4 ∧ zml 45 = 6 := ⟨by decide, rfl, rfl, rfl⟩
theorem zdr_46 : zdir 46 = true := by decide +kernel
theorem ow_46 : zown 46 = 3 := rfl
theorem rt_46 : zret 46 = none := rfl
theorem kk_46 : 46 < 152 ∧ zkind 46 = 1 ∧ znar 46 = 4 ∧ zml 46 = 6 := ⟨by decide, rfl, rfl, rfl⟩
theorem zdr_47 : zdir 47 = true := by decide +kernel
theorem ow_47 : zown 47 = 2 := rfl
theorem rt_47 : zret 47 = none := rfl
theorem kk_47 : 47 < 152 ∧ zkind 47 = 1 ∧ znar 47 = 2 ∧ zml 47 = 4 := ⟨by decide, rfl, rfl, rfl⟩
theorem zdr_48 : zdir 48 = true := by decide +kernel
theorem ow_48 : zown 48 = 0 := rfl
theorem rt_48 : zret 48 = some .int := rfl
theorem kk_48 : 48 < 152 ∧ zkind 48 = 1 ∧ znar 48 = 5 ∧ zml 48 = 6 := ⟨by decide, rfl, rfl, rfl⟩
theorem zdr_49 : zdir 49 = true := by decide +kernel
theorem ow_49 : zown 49 = 9 := rfl
theorem rt_49 : zret 49 = some .boolean := rfl
theorem kk_49 : 49 < 152 ∧ zkind 49 = 1 ∧ znar 49 = 1 ∧ zml 49 = 2 := ⟨by decide, rfl, rfl, rfl⟩
theorem zdr_50 : zdir 50 = true := by decide +kernel
theorem ow_50 : zown 50 = 9 := rfl
theorem rt_50 : zret 50 = none := rfl
theorem kk_50 : 50 < 152 ∧ zkind 50 = 1 ∧ znar 50 = 1 ∧ zml 50 = 3 := ⟨by decide, rfl, rfl, rfl⟩
theorem zdr_51 : zdir 51 = true := by decide +kernel
theorem ow_51 : zown 51 = 0 := rfl
theorem rt_51 : zret 51 = some .boolean := rfl
theorem kk_51 : 51 < 152 ∧ zkind 51 = 1 ∧ znar 51 = 1 ∧ zml 51 = 2 := ⟨by decide, rfl, rfl, rfl⟩
theorem zdr_52 : zdir 52 = true := by decide +kernel
theorem ow_52 : zown 52 = 0 := rfl
theorem rt_52 : zret 52 = some .int := rfl
theorem kk_52 : 52 < 152 ∧ zkind 52 = 1 ∧ znar 52 = 1 ∧ zml 52 = 2 := ⟨by decide, rfl, rfl, rfl⟩
theorem zdr_53 : zdir 53 = true := by decide +kernel
theorem ow_53 : zown 53 = 9 := rfl
theorem rt_53 : zret 53 = none := rfl
theorem kk_53 : 53 < 152 ∧ zkind 53 = 1 ∧ znar 53 = 1 ∧ zml 53 = 2 := ⟨by decide, rfl, rfl, rfl⟩
theorem zdr_54 : zdir 54 = true := by decide +kernel
theorem ow_54 : zown 54 = 9 := rfl
theorem rt_54 : zret 54 = none := rfl
theorem kk_54 : 54 < 152 ∧ zkind 54 = 1 ∧ znar 54 = 0 ∧ zml 54 = 4 := ⟨by decide, rfl, rfl, rfl⟩
theorem ow_55 : zown 55 = 9 := rfl
theorem rt_55 : zret 55 = some .boolean := rfl
theorem kk_55 : 55 < 152 ∧ zkind 55 = 0 ∧ znar 55 = 1 ∧ zml 55 = 1 := ⟨by decide, rfl, rfl, rfl⟩
theorem zdr_56 : zdir 56 = true := by decide +kernel
theorem ow_56 : zown 56 = 9 := rfl
theorem rt_56 : zret 56 = some .int := rfl
theorem kk_56 : 56 < 152 ∧ zkind 56 = 1 ∧ znar 56 = 2 ∧ zml 56 = 8 := ⟨by decide, rfl, rfl, rfl⟩
theorem zdr_57 : zdir 57 = true := by decide +kernel
theorem ow_57 : zown 57 = 12 := rfl
theorem rt_57 : zret 57 = some .int := rfl
theorem kk_57 : 57 < 152 ∧ zkind 57 = 1 ∧ znar 57 = 0 ∧ zml 57 = 1 := ⟨by decide, rfl, rfl, rfl⟩
theorem zdr_58 : zdir 58 = true := by decide +kernel
theorem ow_58 : zown 58 = 12 := rfl
theorem rt_58 : zret 58 = some .byte := rfl
theorem kk_58 : 58 < 152 ∧ zkind 58 = 1 ∧ znar 58 = 0 ∧ zml 58 = 1 := ⟨by decide, rfl, rfl, rfl⟩
theorem zdr_59 : zdir 59 = true := by decide +kernel
theorem ow_59 : zown 59 = 12 := rfl
theorem rt_59 : zret 59 = some .char := rfl
theorem kk_59 : 59 < 152 ∧ zkind 59 = 1 ∧ znar 59 = 1 ∧ zml 59 = 2 := ⟨by decide, rfl, rfl, rfl⟩
theorem zdr_60 : zdir 60 = true := by decide +kernel
theorem ow_60 : zown 60 = 12 := rfl
theorem rt_60 : zret 60 = some .boolean := rfl
theorem kk_60 : 60 < 152 ∧ zkind 60 = 1 ∧ znar 60 = 0 ∧ zml 60 = 1 := ⟨by decide, rfl, rfl, rfl⟩
theorem ow_61 : zown 61 = 17 := rfl
theorem rt_61 : zret 61 = some .char := rfl
theorem kk_61 : 61 < 152 ∧ zkind 61 = 0 ∧ znar 61 = 2 ∧ zml 61 = 2 := ⟨by decide, rfl, rfl, rfl⟩
theorem ow_62 : zown 62 = 12 := rfl
theorem rt_62 : zret 62 = none := rfl
theorem kk_62 : 62 < 152 ∧ zkind 62 = 0 ∧ znar 62 = 2 ∧ zml 62 = 2 := ⟨by decide, rfl, rfl, rfl⟩
theorem ow_63 : zown 63 = 20 := rfl
theorem rt_63 : zret 63 = some .int := rfl
theorem kk_63 : 63 < 152 ∧ zkind 63 = 0 ∧ znar 63 = 3 ∧ zml 63 = 3 := ⟨by decide, rfl, rfl, rfl⟩
theorem zdr_64 : zdir 64 = true := by decide +kernel
theorem ow_64 : zown 64 = 9 := rfl
theorem rt_64 : zret 64 = none := rfl
theorem kk_64 : 64 < 152 ∧ zkind 64 = 1 ∧ znar 64 = 3 ∧ zml 64 = 4 := ⟨by decide, rfl, rfl, rfl⟩
theorem ow_65 : zown 65 = 9 := rfl
theorem rt_65 : zret 65 = some .boolean := rfl
theorem kk_65 : 65 < 152 ∧ zkind 65 = 0 ∧ znar 65 = 1 ∧ zml 65 = 1 := ⟨by decide, rfl, rfl, rfl⟩
theorem zdr_66 : zdir 66 = true := by decide +kernel
theorem ow_66 : zown 66 = 9 := rfl
theorem rt_66 : zret 66 = some .int := rfl
theorem kk_66 : 66 < 152 ∧ zkind 66 = 1 ∧ znar 66 = 2 ∧ zml 66 = 5 := ⟨by decide, rfl, rfl, rfl⟩
theorem ow_67 : zown 67 = 9 := rfl
theorem rt_67 : zret 67 = some .int := rfl
theorem kk_67 : 67 < 152 ∧ zkind 67 = 0 ∧ znar 67 = 1 ∧ zml 67 = 1 := ⟨by decide, rfl, rfl, rfl⟩
theorem zdr_68 : zdir 68 = true := by decide +kernel
theorem ow_68 : zown 68 = 9 := rfl
theorem rt_68 : zret 68 = none := rfl
theorem kk_68 : 68 < 152 ∧ zkind 68 = 1 ∧ znar 68 = 0 ∧ zml 68 = 1 := ⟨by decide, rfl, rfl, rfl⟩
theorem zdr_69 : zdir 69 = true := by decide +kernel
theorem ow_69 : zown 69 = 9 := rfl
theorem rt_69 : zret 69 = some .boolean := rfl
theorem kk_69 : 69 < 152 ∧ zkind 69 = 1 ∧ znar 69 = 0 ∧ zml 69 = 5 := ⟨by decide, rfl, rfl, rfl⟩
theorem zdr_70 : zdir 70 = true := by decide +kernel
theorem ow_70 : zown 70 = 9 := rfl
theorem rt_70 : zret 70 = some .boolean := rfl
theorem kk_70 : 70 < 152 ∧ zkind 70 = 1 ∧ znar 70 = 1 ∧ zml 70 = 2 := ⟨by decide, rfl, rfl, rfl⟩
theorem zdr_71 : zdir 71 = true := by decide +kernel
theorem ow_71 : zown 71 = 9 := rfl
theorem rt_71 : zret 71 = some .boolean := rfl
theorem kk_71 : 71 < 152 ∧ zkind 71 = 1 ∧ znar 71 = 1 ∧ zml 71 = 4 := ⟨by decide, rfl, rfl, rfl⟩
theorem zdr_72 : zdir 72 = true := by decide +kernel
theorem ow_72 : zown 72 = 9 := rfl
theorem rt_72 : zret 72 = some .boolean := rfl
theorem kk_72 : 72 < 152 ∧ zkind 72 = 1 ∧ znar 72 = 1 ∧ zml 72 = 4 := ⟨by decide, rfl, rfl, rfl⟩
theorem zdr_73 : zdir 73 = true := by decide +kernel
theorem ow_73 : zown 73 = 9 := rfl
theorem rt_73 : zret 73 = some .boolean := rfl
theorem kk_73 : 73 < 152 ∧ zkind 73 = 1 ∧ znar 73 = 1 ∧ zml 73 = 2 := ⟨by decide, rfl, rfl, rfl⟩
theorem zdr_74 : zdir 74 = true := by decide +kernel
theorem ow_74 : zown 74 = 5 := rfl
theorem rt_74 : zret 74 = none := rfl
theorem kk_74 : 74 < 152 ∧ zkind 74 = 1 ∧ znar 74 = 2 ∧ zml 74 = 3 := ⟨by decide, rfl, rfl, rfl⟩
theorem zdr_75 : zdir 75 = true := by decide +kernel
theorem ow_75 : zown 75 = 9 := rfl
theorem rt_75 : zret 75 = some .boolean := rfl
theorem kk_75 : 75 < 152 ∧ zkind 75 = 1 ∧ znar 75 = 2 ∧ zml 75 = 3 := ⟨by decide, rfl, rfl, rfl⟩
theorem zdr_76 : zdir 76 = true := by decide +kernel
theorem ow_76 : zown 76 = 9 := rfl
theorem rt_76 : zret 76 = some .boolean := rfl
theorem kk_76 : 76 < 152 ∧ zkind 76 = 1 ∧ znar 76 = 3 ∧ zml 76 = 7 := ⟨by decide, rfl, rfl, rfl⟩
theorem zdr_77 : zdir 77 = true := by decide +kernel
theorem ow_77 : zown 77 = 9 := rfl
theorem rt_77 : zret 77 = some .boolean := rfl
theorem kk_77 : 77 < 152 ∧ zkind 77 = 1 ∧ znar 77 = 3 ∧ zml 77 = 5 := ⟨by decide, rfl, rfl, rfl⟩
theorem zdr_78 : zdir 78 = true := by decide +kernel
theorem ow_78 : zown 78 = 9 := rfl
theorem rt_78 : zret 78 = some .boolean := rfl
theorem kk_78 : 78 < 152 ∧ zkind 78 = 1 ∧ znar 78 = 1 ∧ zml 78 = 2 := ⟨by decide, rfl, rfl, rfl⟩
theorem zdr_79 : zdir 79 = true := by decide +kernel
theorem ow_79 : zown 79 = 9 := rfl
theorem rt_79 : zret 79 = some .boolean := rfl
theorem kk_79 : 79 < 152 ∧ zkind 79 = 1 ∧ znar 79 = 1 ∧ zml 79 = 3 := ⟨by decide, rfl, rfl, rfl⟩
theorem zdr_80 : zdir 80 = true := by decide +kernel
theorem ow_80 : zown 80 = 4 := rfl
theorem rt_80 : zret 80 = none := rfl
theorem kk_80 : 80 < 152 ∧ zkind 80 = 1 ∧ znar 80 = 3 ∧ zml 80 = 4 := ⟨by decide, rfl, rfl, rfl⟩
theorem zdr_81 : zdir 81 = true := by decide +kernel
theorem ow_81 : zown 81 = 4 := rfl
theorem rt_81 : zret 81 = none := rfl
theorem kk_81 : 81 < 152 ∧ zkind 81 = 1 ∧ znar 81 = 1 ∧ zml 81 = 2 := ⟨by decide, rfl, rfl, rfl⟩
theorem zdr_82 : zdir 82 = true := by decide +kernel
theorem ow_82 : zown 82 = 5 := rfl
theorem rt_82 : zret 82 = none := rfl
theorem kk_82 : 82 < 152 ∧ zkind 82 = 1 ∧ znar 82 = 1 ∧ zml 82 = 2 := ⟨by decide, rfl, rfl, rfl⟩
theorem zdr_83 : zdir 83 = true := by decide +kernel
theorem ow_83 : zown 83 = 9 := rfl
theorem rt_83 : zret 83 = some .boolean := rfl
theorem kk_83 : 83 < 152 ∧ zkind 83 = 1 ∧ znar 83 = 0 ∧ zml 83 = 3 := ⟨by decide, rfl, rfl, rfl⟩
theorem zdr_84 : zdir 84 = true := by decide +kernel
theorem ow_84 : zown 84 = 1 := rfl
theorem rt_84 : zret 84 = some .int := rfl
theorem kk_84 : 84 < 152 ∧ zkind 84 = 1 ∧ znar 84 = 0 ∧ zml 84 = 3 := ⟨by decide, rfl, rfl, rfl⟩
theorem zdr_85 : zdir 85 = true := by decide +kernel
theorem ow_85 : zown 85 = 9 := rfl
theorem rt_85 : zret 85 = some .boolean := rfl
theorem kk_85 : 85 < 152 ∧ zkind 85 = 1 ∧ znar 85 = 0 ∧ zml 85 = 3 := ⟨by decide, rfl, rfl, rfl⟩
theorem zdr_86 : zdir 86 = true := by decide +kernel
theorem ow_86 : zown 86 = 9 := rfl
theorem rt_86 : zret 86 = some .boolean := rfl
theorem kk_86 : 86 < 152 ∧ zkind 86 = 1 ∧ znar 86 = 4 ∧ zml 86 = 5 := ⟨by decide, rfl, rfl, rfl⟩
theorem zdr_87 : zdir 87 = true := by decide +kernel
theorem ow_87 : zown 87 = 9 := rfl
theorem rt_87 : zret 87 = some .boolean := rfl
theorem kk_87 : 87 < 152 ∧ zkind 87 = 1 ∧ znar 87 = 0 ∧ zml 87 = 2 := ⟨by decide, rfl, rfl, rfl⟩
theorem zdr_88 : zdir 88 = true := by decide +kernel
theorem ow_88 : zown 88 = 6 := rfl
theorem rt_88 : zret 88 = none := rfl
theorem kk_88 : 88 < 152 ∧ zkind 88 = 1 ∧ znar 88 = 1 ∧ zml 88 = 2 := ⟨by decide, rfl, rfl, rfl⟩
theorem zdr_89 : zdir 89 = true := by decide +kernel
theorem ow_89 : zown 89 = 9 := rfl
theorem rt_89 : zret 89 = some .boolean := rfl
theorem kk_89 : 89 < 152 ∧ zkind 89 = 1 ∧ znar 89 = 0 ∧ zml 89 = 1 := ⟨by decide, rfl, rfl, rfl⟩
theorem zdr_90 : zdir 90 = true := by decide +kernel
theorem ow_90 : zown 90 = 7 := rfl
theorem rt_90 : zret 90 = none := rfl
theorem kk_90 : 90 < 152 ∧ zkind 90 = 1 ∧ znar 90 = 1 ∧ zml 90 = 2 := ⟨by decide, rfl, rfl, rfl⟩
theorem zdr_91 : zdir 91 = true := by decide +kernel
theorem ow_91 : zown 91 = 10 := rfl
theorem rt_91 : zret 91 = some (.object "SpareDayLaw$Land") := rfl
theorem kk_91 : 91 < 152 ∧ zkind 91 = 1 ∧ znar 91 = 0 ∧ zml 91 = 3 := ⟨by decide, rfl, rfl, rfl⟩
theorem zdr_92 : zdir 92 = true := by decide +kernel
theorem ow_92 : zown 92 = 0 := rfl
theorem rt_92 : zret 92 = some .int := rfl
theorem kk_92 : 92 < 152 ∧ zkind 92 = 1 ∧ znar 92 = 2 ∧ zml 92 = 3 := ⟨by decide, rfl, rfl, rfl⟩
theorem zdr_93 : zdir 93 = true := by decide +kernel
theorem ow_93 : zown 93 = 0 := rfl
theorem rt_93 : zret 93 = some .int := rfl
theorem kk_93 : 93 < 152 ∧ zkind 93 = 1 ∧ znar 93 = 1 ∧ zml 93 = 4 := ⟨by decide, rfl, rfl, rfl⟩
theorem zdr_94 : zdir 94 = true := by decide +kernel
theorem ow_94 : zown 94 = 0 := rfl
theorem rt_94 : zret 94 = some .int := rfl
theorem kk_94 : 94 < 152 ∧ zkind 94 = 1 ∧ znar 94 = 3 ∧ zml 94 = 4 := ⟨by decide, rfl, rfl, rfl⟩
theorem zdr_95 : zdir 95 = true := by decide +kernel
theorem ow_95 : zown 95 = 0 := rfl
theorem rt_95 : zret 95 = some .int := rfl
theorem kk_95 : 95 < 152 ∧ zkind 95 = 1 ∧ znar 95 = 2 ∧ zml 95 = 4 := ⟨by decide, rfl, rfl, rfl⟩
theorem zdr_96 : zdir 96 = true := by decide +kernel
theorem ow_96 : zown 96 = 0 := rfl
theorem rt_96 : zret 96 = some .int := rfl
theorem kk_96 : 96 < 152 ∧ zkind 96 = 1 ∧ znar 96 = 2 ∧ zml 96 = 3 := ⟨by decide, rfl, rfl, rfl⟩
theorem ow_97 : zown 97 = 10 := rfl
theorem rt_97 : zret 97 = none := rfl
theorem kk_97 : 97 < 152 ∧ zkind 97 = 2 ∧ znar 97 = 0 ∧ zml 97 = 1 := ⟨by decide, rfl, rfl, rfl⟩
theorem zdr_98 : zdir 98 = true := by decide +kernel
theorem ow_98 : zown 98 = 10 := rfl
theorem rt_98 : zret 98 = some .int := rfl
theorem kk_98 : 98 < 152 ∧ zkind 98 = 1 ∧ znar 98 = 1 ∧ zml 98 = 8 := ⟨by decide, rfl, rfl, rfl⟩
theorem zdr_99 : zdir 99 = true := by decide +kernel
theorem ow_99 : zown 99 = 10 := rfl
theorem rt_99 : zret 99 = none := rfl
theorem kk_99 : 99 < 152 ∧ zkind 99 = 1 ∧ znar 99 = 4 ∧ zml 99 = 5 := ⟨by decide, rfl, rfl, rfl⟩
theorem zdr_100 : zdir 100 = true := by decide +kernel
theorem ow_100 : zown 100 = 10 := rfl
theorem rt_100 : zret 100 = some .int := rfl
theorem kk_100 : 100 < 152 ∧ zkind 100 = 1 ∧ znar 100 = 0 ∧ zml 100 = 3 := ⟨by decide, rfl, rfl, rfl⟩
theorem zdr_101 : zdir 101 = true := by decide +kernel
theorem ow_101 : zown 101 = 10 := rfl
theorem rt_101 : zret 101 = some .int := rfl
theorem kk_101 : 101 < 152 ∧ zkind 101 = 1 ∧ znar 101 = 1 ∧ zml 101 = 4 := ⟨by decide, rfl, rfl, rfl⟩
theorem zdr_102 : zdir 102 = true := by decide +kernel
theorem ow_102 : zown 102 = 10 := rfl
theorem rt_102 : zret 102 = some .int := rfl
theorem kk_102 : 102 < 152 ∧ zkind 102 = 1 ∧ znar 102 = 1 ∧ zml 102 = 4 := ⟨by decide, rfl, rfl, rfl⟩
theorem ow_103 : zown 103 = 14 := rfl
theorem rt_103 : zret 103 = some .int := rfl
theorem kk_103 : 103 < 152 ∧ zkind 103 = 0 ∧ znar 103 = 3 ∧ zml 103 = 3 := ⟨by decide, rfl, rfl, rfl⟩
theorem zdr_104 : zdir 104 = true := by decide +kernel
theorem ow_104 : zown 104 = 10 := rfl
theorem rt_104 : zret 104 = some .int := rfl
theorem kk_104 : 104 < 152 ∧ zkind 104 = 1 ∧ znar 104 = 1 ∧ zml 104 = 4 := ⟨by decide, rfl, rfl, rfl⟩
theorem zdr_105 : zdir 105 = true := by decide +kernel
theorem ow_105 : zown 105 = 10 := rfl
theorem rt_105 : zret 105 = some .boolean := rfl
theorem kk_105 : 105 < 152 ∧ zkind 105 = 1 ∧ znar 105 = 1 ∧ zml 105 = 2 := ⟨by decide, rfl, rfl, rfl⟩
theorem zdr_106 : zdir 106 = true := by decide +kernel
theorem ow_106 : zown 106 = 13 := rfl
theorem rt_106 : zret 106 = some .boolean := rfl
theorem kk_106 : 106 < 152 ∧ zkind 106 = 1 ∧ znar 106 = 1 ∧ zml 106 = 2 := ⟨by decide, rfl, rfl, rfl⟩
theorem zdr_107 : zdir 107 = true := by decide +kernel
theorem ow_107 : zown 107 = 10 := rfl
theorem rt_107 : zret 107 = some .int := rfl
theorem kk_107 : 107 < 152 ∧ zkind 107 = 1 ∧ znar 107 = 2 ∧ zml 107 = 5 := ⟨by decide, rfl, rfl, rfl⟩
theorem zdr_108 : zdir 108 = true := by decide +kernel
theorem ow_108 : zown 108 = 10 := rfl
theorem rt_108 : zret 108 = some .boolean := rfl
theorem kk_108 : 108 < 152 ∧ zkind 108 = 1 ∧ znar 108 = 2 ∧ zml 108 = 4 := ⟨by decide, rfl, rfl, rfl⟩
theorem zdr_109 : zdir 109 = true := by decide +kernel
theorem ow_109 : zown 109 = 10 := rfl
theorem rt_109 : zret 109 = some .int := rfl
theorem kk_109 : 109 < 152 ∧ zkind 109 = 1 ∧ znar 109 = 2 ∧ zml 109 = 5 := ⟨by decide, rfl, rfl, rfl⟩
theorem zdr_110 : zdir 110 = true := by decide +kernel
theorem ow_110 : zown 110 = 10 := rfl
theorem rt_110 : zret 110 = some .int := rfl
theorem kk_110 : 110 < 152 ∧ zkind 110 = 1 ∧ znar 110 = 2 ∧ zml 110 = 4 := ⟨by decide, rfl, rfl, rfl⟩
theorem zdr_111 : zdir 111 = true := by decide +kernel
theorem ow_111 : zown 111 = 10 := rfl
theorem rt_111 : zret 111 = some .int := rfl
theorem kk_111 : 111 < 152 ∧ zkind 111 = 1 ∧ znar 111 = 2 ∧ zml 111 = 3 := ⟨by decide, rfl, rfl, rfl⟩
theorem zdr_112 : zdir 112 = true := by decide +kernel
theorem ow_112 : zown 112 = 10 := rfl
theorem rt_112 : zret 112 = some .int := rfl
theorem kk_112 : 112 < 152 ∧ zkind 112 = 1 ∧ znar 112 = 1 ∧ zml 112 = 2 := ⟨by decide, rfl, rfl, rfl⟩
theorem zdr_113 : zdir 113 = true := by decide +kernel
theorem ow_113 : zown 113 = 10 := rfl
theorem rt_113 : zret 113 = some .boolean := rfl
theorem kk_113 : 113 < 152 ∧ zkind 113 = 1 ∧ znar 113 = 1 ∧ zml 113 = 4 := ⟨by decide, rfl, rfl, rfl⟩
theorem ow_114 : zown 114 = 14 := rfl
theorem rt_114 : zret 114 = some .int := rfl
theorem kk_114 : 114 < 152 ∧ zkind 114 = 0 ∧ znar 114 = 2 ∧ zml 114 = 2 := ⟨by decide, rfl, rfl, rfl⟩
theorem ow_115 : zown 115 = 14 := rfl
theorem rt_115 : zret 115 = some .int := rfl
theorem kk_115 : 115 < 152 ∧ zkind 115 = 0 ∧ znar 115 = 3 ∧ zml 115 = 3 := ⟨by decide, rfl, rfl, rfl⟩
theorem ow_116 : zown 116 = 14 := rfl
theorem rt_116 : zret 116 = some .boolean := rfl
theorem kk_116 : 116 < 152 ∧ zkind 116 = 0 ∧ znar 116 = 3 ∧ zml 116 = 10 := ⟨by decide, rfl, rfl, rfl⟩
theorem ow_117 : zown 117 = 11 := rfl
theorem rt_117 : zret 117 = none := rfl
theorem kk_117 : 117 < 152 ∧ zkind 117 = 2 ∧ znar 117 = 0 ∧ zml 117 = 1 := ⟨by decide, rfl, rfl, rfl⟩
theorem ow_118 : zown 118 = 15 := rfl
theorem rt_118 : zret 118 = none := rfl
theorem kk_118 : 118 < 152 ∧ zkind 118 = 2 ∧ znar 118 = 1 ∧ zml 118 = 2 := ⟨by decide, rfl, rfl, rfl⟩
theorem zdr_119 : zdir 119 = true := by decide +kernel
theorem ow_119 : zown 119 = 11 := rfl
theorem rt_119 : zret 119 = some (.object "java/lang/StringBuilder") := rfl
theorem kk_119 : 119 < 152 ∧ zkind 119 = 1 ∧ znar 119 = 1 ∧ zml 119 = 2 := ⟨by decide, rfl, rfl, rfl⟩
theorem ow_120 : zown 120 = 15 := rfl
theorem rt_120 : zret 120 = some (.object "java/lang/AbstractStringBuilder") := rfl
theorem kk_120 : 120 < 152 ∧ zkind 120 = 1 ∧ znar 120 = 1 ∧ zml 120 = 4 := ⟨by decide, rfl, rfl, rfl⟩
theorem ow_121 : zown 121 = 16 := rfl
theorem rt_121 : zret 121 = some .int := rfl
theorem kk_121 : 121 < 152 ∧ zkind 121 = 0 ∧ znar 121 = 1 ∧ zml 121 = 4 := ⟨by decide, rfl, rfl, rfl⟩
theorem ow_122 : zown 122 = 15 := rfl
theorem rt_122 : zret 122 = none := rfl
theorem kk_122 : 122 < 152 ∧ zkind 122 = 1 ∧ znar 122 = 1 ∧ zml 122 = 3 := ⟨by decide, rfl, rfl, rfl⟩
theorem ow_123 : zown 123 = 15 := rfl
theorem rt_123 : zret 123 = some .int := rfl
theorem kk_123 : 123 < 152 ∧ zkind 123 = 1 ∧ znar 123 = 1 ∧ zml 123 = 6 := ⟨by decide, rfl, rfl, rfl⟩
theorem ow_124 : zown 124 = 19 := rfl
theorem rt_124 : zret 124 = some .int := rfl
theorem kk_124 : 124 < 152 ∧ zkind 124 = 0 ∧ znar 124 = 3 ∧ zml 124 = 4 := ⟨by decide, rfl, rfl, rfl⟩
theorem ow_125 : zown 125 = 18 := rfl
theorem rt_125 : zret 125 = some (.array .byte) := rfl
theorem kk_125 : 125 < 152 ∧ zkind 125 = 0 ∧ znar 125 = 2 ∧ zml 125 = 3 := ⟨by decide, rfl, rfl, rfl⟩
theorem ow_126 : zown 126 = 15 := rfl
theorem rt_126 : zret 126 = some .boolean := rfl
theorem kk_126 : 126 < 152 ∧ zkind 126 = 1 ∧ znar 126 = 0 ∧ zml 126 = 1 := ⟨by decide, rfl, rfl, rfl⟩
theorem ow_127 : zown 127 = 16 := rfl
theorem rt_127 : zret 127 = some .int := rfl
theorem kk_127 : 127 < 152 ∧ zkind 127 = 0 ∧ znar 127 = 3 ∧ zml 127 = 7 := ⟨by decide, rfl, rfl, rfl⟩
theorem zdr_128 : zdir 128 = true := by decide +kernel
theorem ow_128 : zown 128 = 11 := rfl
theorem rt_128 : zret 128 = some (.object "java/lang/StringBuilder") := rfl
theorem kk_128 : 128 < 152 ∧ zkind 128 = 1 ∧ znar 128 = 1 ∧ zml 128 = 2 := ⟨by decide, rfl, rfl, rfl⟩
theorem ow_129 : zown 129 = 15 := rfl
theorem rt_129 : zret 129 = some (.object "java/lang/AbstractStringBuilder") := rfl
theorem kk_129 : 129 < 152 ∧ zkind 129 = 1 ∧ znar 129 = 1 ∧ zml 129 = 3 := ⟨by decide, rfl, rfl, rfl⟩
theorem ow_130 : zown 130 = 15 := rfl
theorem rt_130 : zret 130 = none := rfl
theorem kk_130 : 130 < 152 ∧ zkind 130 = 1 ∧ znar 130 = 2 ∧ zml 130 = 3 := ⟨by decide, rfl, rfl, rfl⟩
theorem ow_131 : zown 131 = 15 := rfl
theorem rt_131 : zret 131 = none := rfl
theorem kk_131 : 131 < 152 ∧ zkind 131 = 1 ∧ znar 131 = 1 ∧ zml 131 = 2 := ⟨by decide, rfl, rfl, rfl⟩
theorem zdr_132 : zdir 132 = true := by decide +kernel
theorem ow_132 : zown 132 = 12 := rfl
theorem rt_132 : zret 132 = none := rfl
theorem kk_132 : 132 < 152 ∧ zkind 132 = 1 ∧ znar 132 = 3 ∧ zml 132 = 4 := ⟨by decide, rfl, rfl, rfl⟩
theorem zdr_133 : zdir 133 = true := by decide +kernel
theorem ow_133 : zown 133 = 11 := rfl
theorem rt_133 : zret 133 = some (.object "java/lang/String") := rfl
theorem kk_133 : 133 < 152 ∧ zkind 133 = 1 ∧ znar 133 = 0 ∧ zml 133 = 1 := ⟨by decide, rfl, rfl, rfl⟩
theorem ow_134 : zown 134 = 12 := rfl
theorem rt_134 : zret 134 = none := rfl
theorem kk_134 : 134 < 152 ∧ zkind 134 = 2 ∧ znar 134 = 1 ∧ zml 134 = 2 := ⟨by decide, rfl, rfl, rfl⟩
theorem ow_135 : zown 135 = 12 := rfl
theorem rt_135 : zret 135 = none := rfl
theorem kk_135 : 135 < 152 ∧ zkind 135 = 2 ∧ znar 135 = 2 ∧ zml 135 = 5 := ⟨by decide, rfl, rfl, rfl⟩
theorem ow_136 : zown 136 = 15 := rfl
theorem rt_136 : zret 136 = some (.array .byte) := rfl
theorem kk_136 : 136 < 152 ∧ zkind 136 = 1 ∧ znar 136 = 0 ∧ zml 136 = 1 := ⟨by decide, rfl, rfl, rfl⟩
theorem ow_137 : zown 137 = 11 := rfl
theorem rt_137 : zret 137 = some .int := rfl
theorem kk_137 : 137 < 152 ∧ zkind 137 = 1 ∧ znar 137 = 0 ∧ zml 137 = 1 := ⟨by decide, rfl, rfl, rfl⟩
theorem zdr_138 : zdir 138 = true := by decide +kernel
theorem ow_138 : zown 138 = 0 := rfl
theorem rt_138 : zret 138 = some .boolean := rfl
theorem kk_138 : 138 < 152 ∧ zkind 138 = 1 ∧ znar 138 = 0 ∧ zml 138 = 1 := ⟨by decide, rfl, rfl, rfl⟩
theorem ow_139 : zown 139 = 15 := rfl
theorem rt_139 : zret 139 = some .int := rfl
theorem kk_139 : 139 < 152 ∧ zkind 139 = 1 ∧ znar 139 = 0 ∧ zml 139 = 1 := ⟨by decide, rfl, rfl, rfl⟩
theorem ow_140 : zown 140 = 18 := rfl
theorem rt_140 : zret 140 = some (.array .byte) := rfl
theorem kk_140 : 140 < 152 ∧ zkind 140 = 0 ∧ znar 140 = 3 ∧ zml 140 = 3 := ⟨by decide, rfl, rfl, rfl⟩
theorem ow_141 : zown 141 = 18 := rfl
theorem rt_141 : zret 141 = some (.array .byte) := rfl
theorem kk_141 : 141 < 152 ∧ zkind 141 = 0 ∧ znar 141 = 3 ∧ zml 141 = 5 := ⟨by decide, rfl, rfl, rfl⟩
theorem ow_142 : zown 142 = 18 := rfl
theorem rt_142 : zret 142 = none := rfl
theorem kk_142 : 142 < 152 ∧ zkind 142 = 0 ∧ znar 142 = 2 ∧ zml 142 = 2 := ⟨by decide, rfl, rfl, rfl⟩
theorem zdr_143 : zdir 143 = true := by decide +kernel
theorem ow_143 : zown 143 = 0 := rfl
theorem rt_143 : zret 143 = some .int := rfl
theorem kk_143 : 143 < 152 ∧ zkind 143 = 1 ∧ znar 143 = 1 ∧ zml 143 = 2 := ⟨by decide, rfl, rfl, rfl⟩
theorem zdr_144 : zdir 144 = true := by decide +kernel
theorem ow_144 : zown 144 = 0 := rfl
theorem rt_144 : zret 144 = some .int := rfl
theorem kk_144 : 144 < 152 ∧ zkind 144 = 1 ∧ znar 144 = 1 ∧ zml 144 = 2 := ⟨by decide, rfl, rfl, rfl⟩
theorem ow_145 : zown 145 = 14 := rfl
theorem rt_145 : zret 145 = none := rfl
theorem kk_145 : 145 < 152 ∧ zkind 145 = 0 ∧ znar 145 = 2 ∧ zml 145 = 5 := ⟨by decide, rfl, rfl, rfl⟩
theorem ow_146 : zown 146 = 14 := rfl
theorem rt_146 : zret 146 = some .boolean := rfl
theorem kk_146 : 146 < 152 ∧ zkind 146 = 0 ∧ znar 146 = 3 ∧ zml 146 = 3 := ⟨by decide, rfl, rfl, rfl⟩
theorem ow_147 : zown 147 = 14 := rfl
theorem rt_147 : zret 147 = some (.object "SpareDayLaw$Rule") := rfl
theorem kk_147 : 147 < 152 ∧ zkind 147 = 0 ∧ znar 147 = 3 ∧ zml 147 = 5 := ⟨by decide, rfl, rfl, rfl⟩
theorem ow_148 : zown 148 = 13 := rfl
theorem rt_148 : zret 148 = none := rfl
theorem kk_148 : 148 < 152 ∧ zkind 148 = 2 ∧ znar 148 = 4 ∧ zml 148 = 5 := ⟨by decide, rfl, rfl, rfl⟩
theorem zdr_149 : zdir 149 = true := by decide +kernel
theorem ow_149 : zown 149 = 13 := rfl
theorem rt_149 : zret 149 = some (.object "java/lang/String") := rfl
theorem kk_149 : 149 < 152 ∧ zkind 149 = 1 ∧ znar 149 = 1 ∧ zml 149 = 3 := ⟨by decide, rfl, rfl, rfl⟩
theorem zdr_150 : zdir 150 = true := by decide +kernel
theorem ow_150 : zown 150 = 13 := rfl
theorem rt_150 : zret 150 = some .int := rfl
theorem kk_150 : 150 < 152 ∧ zkind 150 = 1 ∧ znar 150 = 0 ∧ zml 150 = 1 := ⟨by decide, rfl, rfl, rfl⟩
theorem ow_151 : zown 151 = 14 := rfl
theorem rt_151 : zret 151 = some (.object "SpareDayLaw$Land") := rfl
theorem kk_151 : 151 < 152 ∧ zkind 151 = 0 ∧ znar 151 = 3 ∧ zml 151 = 13 := ⟨by decide, rfl, rfl, rfl⟩
theorem gf_0_10 : zfld 0 10 = some (0, 0) ∧ 0 < zN 0 ∧ zfk 0 0 = 2 := by decide +kernel
theorem gf_0_25 : zfld 0 25 = some (0, 3) ∧ 3 < zN 0 ∧ zfk 0 3 = 2 := by decide +kernel
theorem gf_0_30 : zfld 0 30 = some (0, 4) ∧ 4 < zN 0 ∧ zfk 0 4 = 0 ∧ zfin 0 4 = false := by decide +kernel
theorem gf_0_34 : zfld 0 34 = some (0, 5) ∧ 5 < zN 0 ∧ zfk 0 5 = 0 ∧ zfin 0 5 = false := by decide +kernel
theorem gf_0_44 : zfld 0 44 = some (0, 7) ∧ 7 < zN 0 ∧ zfk 0 7 = 2 := by decide +kernel
theorem gf_0_52 : zfld 0 52 = some (1, 0) ∧ 0 < zN 1 ∧ zfk 1 0 = 2 := by decide +kernel
theorem gf_0_55 : zfld 0 55 = some (2, 9) ∧ 9 < zN 2 ∧ zfk 2 9 = 0 ∧ zfin 2 9 = false := by decide +kernel
theorem gf_0_65 : zfld 0 65 = some (1, 11) ∧ 11 < zN 1 ∧ zfk 1 11 = 0 ∧ zfin 1 11 = false := by decide +kernel
theorem gf_0_75 : zfld 0 75 = some (2, 4) ∧ 4 < zN 2 ∧ zfk 2 4 = 0 ∧ zfin 2 4 = false := by decide +kernel
theorem gf_0_78 : zfld 0 78 = some (1, 12) ∧ 12 < zN 1 ∧ zfk 1 12 = 0 ∧ zfin 1 12 = false := by decide +kernel
theorem gf_0_81 : zfld 0 81 = some (1, 13) ∧ 13 < zN 1 ∧ zfk 1 13 = 0 ∧ zfin 1 13 = false := by decide +kernel
theorem gf_0_84 : zfld 0 84 = some (1, 6) ∧ 6 < zN 1 ∧ zfk 1 6 = 2 := by decide +kernel
theorem gf_0_88 : zfld 0 88 = some (1, 7) ∧ 7 < zN 1 ∧ zfk 1 7 = 2 := by decide +kernel
theorem gf_0_91 : zfld 0 91 = some (2, 0) ∧ 0 < zN 2 ∧ zfk 2 0 = 2 := by decide +kernel
theorem gf_0_98 : zfld 0 98 = some (2, 3) ∧ 3 < zN 2 ∧ zfk 2 3 = 2 := by decide +kernel
theorem gf_0_112 : zfld 0 112 = some (2, 5) ∧ 5 < zN 2 ∧ zfk 2 5 = 0 ∧ zfin 2 5 = false := by decide +kernel
theorem gf_0_125 : zfld 0 125 = some (9, 1) ∧ 1 < zN 9 ∧ zfk 9 1 = 0 ∧ zfin 9 1 = false := by decide +kernel
theorem gf_0_135 : zfld 0 135 = some (1, 2) ∧ 2 < zN 1 ∧ zfk 1 2 = 2 := by decide +kernel
theorem gf_0_139 : zfld 0 139 = some (9, 12) ∧ 12 < zN 9 ∧ zfk 9 12 = 2 := by decide +kernel
theorem gf_0_146 : zfld 0 146 = some (4, 5) ∧ 5 < zN 4 ∧ zfk 4 5 = 0 ∧ zfin 4 5 = false := by decide +kernel
theorem gf_0_152 : zfld 0 152 = some (9, 13) ∧ 13 < zN 9 ∧ zfk 9 13 = 2 := by decide +kernel
theorem gf_0_155 : zfld 0 155 = some (1, 8) ∧ 8 < zN 1 ∧ zfk 1 8 = 2 := by decide +kernel
theorem gf_0_169 : zfld 0 169 = some (1, 3) ∧ 3 < zN 1 ∧ zfk 1 3 = 2 := by decide +kernel
theorem gf_0_173 : zfld 0 173 = some (9, 14) ∧ 14 < zN 9 ∧ zfk 9 14 = 2 := by decide +kernel
theorem gf_0_179 : zfld 0 179 = some (2, 8) ∧ 8 < zN 2 ∧ zfk 2 8 = 0 ∧ zfin 2 8 = false := by decide +kernel
theorem gf_0_182 : zfld 0 182 = some (6, 6) ∧ 6 < zN 6 ∧ zfk 6 6 = 0 ∧ zfin 6 6 = false := by decide +kernel
theorem gf_0_188 : zfld 0 188 = some (1, 4) ∧ 4 < zN 1 ∧ zfk 1 4 = 2 := by decide +kernel
theorem gf_0_192 : zfld 0 192 = some (9, 15) ∧ 15 < zN 9 ∧ zfk 9 15 = 2 := by decide +kernel
theorem gf_0_198 : zfld 0 198 = some (7, 1) ∧ 1 < zN 7 ∧ zfk 7 1 = 0 ∧ zfin 7 1 = false := by decide +kernel
theorem gf_0_207 : zfld 0 207 = some (2, 1) ∧ 1 < zN 2 ∧ zfk 2 1 = 2 := by decide +kernel
theorem gf_0_210 : zfld 0 210 = some (2, 2) ∧ 2 < zN 2 ∧ zfk 2 2 = 2 := by decide +kernel
theorem gf_0_221 : zfld 0 221 = some (6, 0) ∧ 0 < zN 6 ∧ zfk 6 0 = 2 := by decide +kernel
theorem gf_0_224 : zfld 0 224 = some (6, 1) ∧ 1 < zN 6 ∧ zfk 6 1 = 2 := by decide +kernel
theorem gf_0_227 : zfld 0 227 = some (6, 2) ∧ 2 < zN 6 ∧ zfk 6 2 = 2 := by decide +kernel
theorem gf_0_230 : zfld 0 230 = some (6, 3) ∧ 3 < zN 6 ∧ zfk 6 3 = 2 := by decide +kernel
theorem gf_0_233 : zfld 0 233 = some (6, 4) ∧ 4 < zN 6 ∧ zfk 6 4 = 2 := by decide +kernel
theorem gf_0_236 : zfld 0 236 = some (6, 5) ∧ 5 < zN 6 ∧ zfk 6 5 = 2 := by decide +kernel
theorem gf_0_239 : zfld 0 239 = some (2, 10) ∧ 10 < zN 2 ∧ zfk 2 10 = 0 ∧ zfin 2 10 = false := by decide +kernel
theorem gf_0_240 : zfld 0 240 = some (1, 1) ∧ 1 < zN 1 ∧ zfk 1 1 = 2 := by decide +kernel
theorem gf_0_244 : zfld 0 244 = some (3, 0) ∧ 0 < zN 3 ∧ zfk 3 0 = 2 := by decide +kernel
theorem gf_0_248 : zfld 0 248 = some (3, 1) ∧ 1 < zN 3 ∧ zfk 3 1 = 2 := by decide +kernel
theorem gf_0_251 : zfld 0 251 = some (3, 2) ∧ 2 < zN 3 ∧ zfk 3 2 = 2 := by decide +kernel
theorem gf_0_254 : zfld 0 254 = some (3, 3) ∧ 3 < zN 3 ∧ zfk 3 3 = 2 := by decide +kernel
theorem gf_0_277 : zfld 0 277 = some (2, 7) ∧ 7 < zN 2 ∧ zfk 2 7 = 0 ∧ zfin 2 7 = false := by decide +kernel
theorem gf_0_299 : zfld 0 299 = some (1, 14) ∧ 14 < zN 1 ∧ zfk 1 14 = 0 ∧ zfin 1 14 = false := by decide +kernel
theorem gf_0_301 : zfld 0 301 = some (1, 15) ∧ 15 < zN 1 ∧ zfk 1 15 = 0 ∧ zfin 1 15 = false := by decide +kernel
theorem gf_0_321 : zfld 0 321 = some (1, 5) ∧ 5 < zN 1 ∧ zfk 1 5 = 2 := by decide +kernel
theorem gf_0_325 : zfld 0 325 = some (8, 2) ∧ 2 < zN 8 ∧ zfk 8 2 = 0 ∧ zfin 8 2 = false := by decide +kernel
theorem gf_0_359 : zfld 0 359 = some (2, 6) ∧ 6 < zN 2 ∧ zfk 2 6 = 0 ∧ zfin 2 6 = false := by decide +kernel
theorem gf_1_12 : zfld 1 12 = some (1, 0) ∧ 0 < zN 1 ∧ zfk 1 0 = 2 := by decide +kernel
theorem gf_1_21 : zfld 1 21 = some (1, 1) ∧ 1 < zN 1 ∧ zfk 1 1 = 2 := by decide +kernel
theorem gf_1_28 : zfld 1 28 = some (1, 2) ∧ 2 < zN 1 ∧ zfk 1 2 = 2 := by decide +kernel
theorem gf_1_35 : zfld 1 35 = some (1, 3) ∧ 3 < zN 1 ∧ zfk 1 3 = 2 := by decide +kernel
theorem gf_1_42 : zfld 1 42 = some (1, 4) ∧ 4 < zN 1 ∧ zfk 1 4 = 2 := by decide +kernel
theorem gf_1_53 : zfld 1 53 = some (1, 6) ∧ 6 < zN 1 ∧ zfk 1 6 = 2 := by decide +kernel
theorem gf_1_57 : zfld 1 57 = some (1, 7) ∧ 7 < zN 1 ∧ zfk 1 7 = 2 := by decide +kernel
theorem gf_1_60 : zfld 1 60 = some (1, 8) ∧ 8 < zN 1 ∧ zfk 1 8 = 2 := by decide +kernel
theorem gf_1_63 : zfld 1 63 = some (1, 9) ∧ 9 < zN 1 ∧ zfk 1 9 = 2 := by decide +kernel
theorem gf_1_66 : zfld 1 66 = some (1, 10) ∧ 10 < zN 1 ∧ zfk 1 10 = 2 := by decide +kernel
theorem gf_1_69 : zfld 1 69 = some (1, 12) ∧ 12 < zN 1 ∧ zfk 1 12 = 0 ∧ zfin 1 12 = false := by decide +kernel
theorem gf_1_73 : zfld 1 73 = some (1, 13) ∧ 13 < zN 1 ∧ zfk 1 13 = 0 ∧ zfin 1 13 = false := by decide +kernel
theorem gf_1_101 : zfld 1 101 = some (1, 11) ∧ 11 < zN 1 ∧ zfk 1 11 = 0 ∧ zfin 1 11 = false := by decide +kernel
theorem gf_1_110 : zfld 1 110 = some (2, 0) ∧ 0 < zN 2 ∧ zfk 2 0 = 2 := by decide +kernel
theorem gf_1_113 : zfld 1 113 = some (2, 1) ∧ 1 < zN 2 ∧ zfk 2 1 = 2 := by decide +kernel
theorem gf_1_116 : zfld 1 116 = some (2, 2) ∧ 2 < zN 2 ∧ zfk 2 2 = 2 := by decide +kernel
theorem gf_1_119 : zfld 1 119 = some (2, 3) ∧ 3 < zN 2 ∧ zfk 2 3 = 2 := by decide +kernel
theorem gf_1_122 : zfld 1 122 = some (2, 4) ∧ 4 < zN 2 ∧ zfk 2 4 = 0 ∧ zfin 2 4 = false := by decide +kernel
theorem gf_1_125 : zfld 1 125 = some (2, 5) ∧ 5 < zN 2 ∧ zfk 2 5 = 0 ∧ zfin 2 5 = false := by decide +kernel
theorem gf_1_178 : zfld 1 178 = some (2, 8) ∧ 8 < zN 2 ∧ zfk 2 8 = 0 ∧ zfin 2 8 = false := by decide +kernel
theorem gf_1_184 : zfld 1 184 = some (6, 1) ∧ 1 < zN 6 ∧ zfk 6 1 = 2 := by decide +kernel
theorem gf_1_190 : zfld 1 190 = some (2, 7) ∧ 7 < zN 2 ∧ zfk 2 7 = 0 ∧ zfin 2 7 = false := by decide +kernel
theorem gf_1_193 : zfld 1 193 = some (6, 2) ∧ 2 < zN 6 ∧ zfk 6 2 = 2 := by decide +kernel
theorem gf_1_202 : zfld 1 202 = some (2, 6) ∧ 6 < zN 2 ∧ zfk 2 6 = 0 ∧ zfin 2 6 = false := by decide +kernel
theorem gf_1_209 : zfld 1 209 = some (6, 6) ∧ 6 < zN 6 ∧ zfk 6 6 = 0 ∧ zfin 6 6 = false := by decide +kernel
theorem gf_2_9 : zfld 2 9 = some (2, 0) ∧ 0 < zN 2 ∧ zfk 2 0 = 2 := by decide +kernel
theorem gf_2_15 : zfld 2 15 = some (2, 1) ∧ 1 < zN 2 ∧ zfk 2 1 = 2 := by decide +kernel
theorem gf_2_18 : zfld 2 18 = some (2, 2) ∧ 2 < zN 2 ∧ zfk 2 2 = 2 := by decide +kernel
theorem gf_2_21 : zfld 2 21 = some (2, 3) ∧ 3 < zN 2 ∧ zfk 2 3 = 2 := by decide +kernel
theorem gf_2_30 : zfld 2 30 = some (2, 4) ∧ 4 < zN 2 ∧ zfk 2 4 = 0 ∧ zfin 2 4 = false := by decide +kernel
theorem gf_2_34 : zfld 2 34 = some (2, 5) ∧ 5 < zN 2 ∧ zfk 2 5 = 0 ∧ zfin 2 5 = false := by decide +kernel
theorem gf_2_37 : zfld 2 37 = some (2, 6) ∧ 6 < zN 2 ∧ zfk 2 6 = 0 ∧ zfin 2 6 = false := by decide +kernel
theorem gf_2_40 : zfld 2 40 = some (2, 7) ∧ 7 < zN 2 ∧ zfk 2 7 = 0 ∧ zfin 2 7 = false := by decide +kernel
theorem gf_2_43 : zfld 2 43 = some (2, 8) ∧ 8 < zN 2 ∧ zfk 2 8 = 0 ∧ zfin 2 8 = false := by decide +kernel
theorem gf_2_46 : zfld 2 46 = some (2, 9) ∧ 9 < zN 2 ∧ zfk 2 9 = 0 ∧ zfin 2 9 = false := by decide +kernel
theorem gf_2_49 : zfld 2 49 = some (2, 10) ∧ 10 < zN 2 ∧ zfk 2 10 = 0 ∧ zfin 2 10 = false := by decide +kernel
theorem gf_3_9 : zfld 3 9 = some (3, 0) ∧ 0 < zN 3 ∧ zfk 3 0 = 2 := by decide +kernel
theorem gf_3_15 : zfld 3 15 = some (3, 1) ∧ 1 < zN 3 ∧ zfk 3 1 = 2 := by decide +kernel
theorem gf_3_18 : zfld 3 18 = some (3, 2) ∧ 2 < zN 3 ∧ zfk 3 2 = 2 := by decide +kernel
theorem gf_3_21 : zfld 3 21 = some (3, 3) ∧ 3 < zN 3 ∧ zfk 3 3 = 2 := by decide +kernel
theorem gf_3_30 : zfld 3 30 = some (2, 10) ∧ 10 < zN 2 ∧ zfk 2 10 = 0 ∧ zfin 2 10 = false := by decide +kernel
theorem gf_3_36 : zfld 3 36 = some (2, 5) ∧ 5 < zN 2 ∧ zfk 2 5 = 0 ∧ zfin 2 5 = false := by decide +kernel
theorem gf_4_12 : zfld 4 12 = some (4, 0) ∧ 0 < zN 4 ∧ zfk 4 0 = 2 := by decide +kernel
theorem gf_4_18 : zfld 4 18 = some (4, 1) ∧ 1 < zN 4 ∧ zfk 4 1 = 2 := by decide +kernel
theorem gf_4_22 : zfld 4 22 = some (4, 2) ∧ 2 < zN 4 ∧ zfk 4 2 = 2 := by decide +kernel
theorem gf_4_25 : zfld 4 25 = some (4, 3) ∧ 3 < zN 4 ∧ zfk 4 3 = 2 := by decide +kernel
theorem gf_4_28 : zfld 4 28 = some (4, 4) ∧ 4 < zN 4 ∧ zfk 4 4 = 2 := by decide +kernel
theorem gf_4_41 : zfld 4 41 = some (4, 5) ∧ 5 < zN 4 ∧ zfk 4 5 = 0 ∧ zfin 4 5 = false := by decide +kernel
theorem gf_4_45 : zfld 4 45 = some (5, 3) ∧ 3 < zN 5 ∧ zfk 5 3 = 0 ∧ zfin 5 3 = false := by decide +kernel
theorem gf_5_9 : zfld 5 9 = some (5, 0) ∧ 0 < zN 5 ∧ zfk 5 0 = 2 := by decide +kernel
theorem gf_5_15 : zfld 5 15 = some (5, 1) ∧ 1 < zN 5 ∧ zfk 5 1 = 2 := by decide +kernel
theorem gf_5_18 : zfld 5 18 = some (5, 2) ∧ 2 < zN 5 ∧ zfk 5 2 = 2 := by decide +kernel
theorem gf_5_27 : zfld 5 27 = some (5, 3) ∧ 3 < zN 5 ∧ zfk 5 3 = 0 ∧ zfin 5 3 = false := by decide +kernel
theorem gf_6_9 : zfld 6 9 = some (6, 0) ∧ 0 < zN 6 ∧ zfk 6 0 = 2 := by decide +kernel
theorem gf_6_15 : zfld 6 15 = some (6, 1) ∧ 1 < zN 6 ∧ zfk 6 1 = 2 := by decide +kernel
theorem gf_6_18 : zfld 6 18 = some (6, 2) ∧ 2 < zN 6 ∧ zfk 6 2 = 2 := by decide +kernel
theorem gf_6_21 : zfld 6 21 = some (6, 3) ∧ 3 < zN 6 ∧ zfk 6 3 = 2 := by decide +kernel
theorem gf_6_24 : zfld 6 24 = some (6, 4) ∧ 4 < zN 6 ∧ zfk 6 4 = 2 := by decide +kernel
theorem gf_6_27 : zfld 6 27 = some (6, 5) ∧ 5 < zN 6 ∧ zfk 6 5 = 2 := by decide +kernel
theorem gf_6_39 : zfld 6 39 = some (6, 6) ∧ 6 < zN 6 ∧ zfk 6 6 = 0 ∧ zfin 6 6 = false := by decide +kernel
theorem gf_7_10 : zfld 7 10 = some (7, 0) ∧ 0 < zN 7 ∧ zfk 7 0 = 2 := by decide +kernel
theorem gf_7_20 : zfld 7 20 = some (7, 1) ∧ 1 < zN 7 ∧ zfk 7 1 = 0 ∧ zfin 7 1 = false := by decide +kernel
theorem gf_7_24 : zfld 7 24 = some (5, 3) ∧ 3 < zN 5 ∧ zfk 5 3 = 0 ∧ zfin 5 3 = false := by decide +kernel
theorem gf_9_9 : zfld 9 9 = some (9, 0) ∧ 0 < zN 9 ∧ zfk 9 0 = 2 := by decide +kernel
theorem gf_9_15 : zfld 9 15 = some (9, 2) ∧ 2 < zN 9 ∧ zfk 9 2 = 2 := by decide +kernel
theorem gf_9_18 : zfld 9 18 = some (9, 3) ∧ 3 < zN 9 ∧ zfk 9 3 = 2 := by decide +kernel
theorem gf_9_21 : zfld 9 21 = some (9, 4) ∧ 4 < zN 9 ∧ zfk 9 4 = 2 := by decide +kernel
theorem gf_9_24 : zfld 9 24 = some (9, 11) ∧ 11 < zN 9 ∧ zfk 9 11 = 0 ∧ zfin 9 11 = false := by decide +kernel
theorem gf_9_31 : zfld 9 31 = some (9, 12) ∧ 12 < zN 9 ∧ zfk 9 12 = 2 := by decide +kernel
theorem gf_9_35 : zfld 9 35 = some (9, 13) ∧ 13 < zN 9 ∧ zfk 9 13 = 2 := by decide +kernel
theorem gf_9_41 : zfld 9 41 = some (9, 14) ∧ 14 < zN 9 ∧ zfk 9 14 = 2 := by decide +kernel
theorem gf_9_48 : zfld 9 48 = some (9, 15) ∧ 15 < zN 9 ∧ zfk 9 15 = 2 := by decide +kernel
theorem gf_9_52 : zfld 9 52 = some (9, 1) ∧ 1 < zN 9 ∧ zfk 9 1 = 0 ∧ zfin 9 1 = false := by decide +kernel
theorem gf_9_55 : zfld 9 55 = some (9, 9) ∧ 9 < zN 9 ∧ zfk 9 9 = 0 ∧ zfin 9 9 = false := by decide +kernel
theorem gf_9_58 : zfld 9 58 = some (9, 10) ∧ 10 < zN 9 ∧ zfk 9 10 = 0 ∧ zfin 9 10 = false := by decide +kernel
theorem gf_9_64 : zfld 9 64 = some (9, 6) ∧ 6 < zN 9 ∧ zfk 9 6 = 0 ∧ zfin 9 6 = false := by decide +kernel
theorem gf_9_70 : zfld 9 70 = some (9, 5) ∧ 5 < zN 9 ∧ zfk 9 5 = 0 ∧ zfin 9 5 = false := by decide +kernel
theorem gf_9_107 : zfld 9 107 = some (9, 7) ∧ 7 < zN 9 ∧ zfk 9 7 = 0 ∧ zfin 9 7 = false := by decide +kernel
theorem gf_9_110 : zfld 9 110 = some (9, 8) ∧ 8 < zN 9 ∧ zfk 9 8 = 0 ∧ zfin 9 8 = false := by decide +kernel
theorem gf_9_120 : zfld 9 120 = some (4, 5) ∧ 5 < zN 4 ∧ zfk 4 5 = 0 ∧ zfin 4 5 = false := by decide +kernel
theorem gf_9_123 : zfld 9 123 = some (4, 0) ∧ 0 < zN 4 ∧ zfk 4 0 = 2 := by decide +kernel
theorem gf_9_127 : zfld 9 127 = some (5, 3) ∧ 3 < zN 5 ∧ zfk 5 3 = 0 ∧ zfin 5 3 = false := by decide +kernel
theorem gf_9_146 : zfld 9 146 = some (7, 1) ∧ 1 < zN 7 ∧ zfk 7 1 = 0 ∧ zfin 7 1 = false := by decide +kernel
theorem gf_9_149 : zfld 9 149 = some (7, 0) ∧ 0 < zN 7 ∧ zfk 7 0 = 2 := by decide +kernel
theorem gf_9_169 : zfld 9 169 = some (6, 6) ∧ 6 < zN 6 ∧ zfk 6 6 = 0 ∧ zfin 6 6 = false := by decide +kernel
theorem gf_9_172 : zfld 9 172 = some (6, 0) ∧ 0 < zN 6 ∧ zfk 6 0 = 2 := by decide +kernel
theorem gf_9_179 : zfld 9 179 = some (6, 1) ∧ 1 < zN 6 ∧ zfk 6 1 = 2 := by decide +kernel
theorem gf_9_182 : zfld 9 182 = some (6, 2) ∧ 2 < zN 6 ∧ zfk 6 2 = 2 := by decide +kernel
theorem gf_9_185 : zfld 9 185 = some (6, 3) ∧ 3 < zN 6 ∧ zfk 6 3 = 2 := by decide +kernel
theorem gf_9_188 : zfld 9 188 = some (6, 4) ∧ 4 < zN 6 ∧ zfk 6 4 = 2 := by decide +kernel
theorem gf_9_195 : zfld 9 195 = some (6, 5) ∧ 5 < zN 6 ∧ zfk 6 5 = 2 := by decide +kernel
theorem rs_0_58 : zres 0 58 = some 11 := by decide +kernel
theorem rs_0_61 : zres 0 61 = some 13 := by decide +kernel
theorem rs_0_68 : zres 0 68 = some 14 := by decide +kernel
theorem rs_0_72 : zres 0 72 = some 16 := by decide +kernel
theorem rs_0_94 : zres 0 94 = some 17 := by decide +kernel
theorem rs_0_101 : zres 0 101 = some 19 := by decide +kernel
theorem rs_0_105 : zres 0 105 = some 20 := by decide +kernel
theorem rs_0_108 : zres 0 108 = some 23 := by decide +kernel
theorem rs_0_115 : zres 0 115 = some 25 := by decide +kernel
theorem rs_0_119 : zres 0 119 = some 49 := by decide +kernel
theorem rs_0_122 : zres 0 122 = some 50 := by decide +kernel
theorem rs_0_128 : zres 0 128 = some 53 := by decide +kernel
theorem rs_0_131 : zres 0 131 = some 69 := by decide +kernel
theorem rs_0_140 : zres 0 140 = some 81 := by decide +kernel
theorem rs_0_149 : zres 0 149 = some 83 := by decide +kernel
theorem rs_0_156 : zres 0 156 = some 1000 := by decide +kernel
theorem rs_0_162 : zres 0 162 = some 84 := by decide +kernel
theorem rs_0_166 : zres 0 166 = some 85 := by decide +kernel
theorem rs_0_174 : zres 0 174 = some 88 := by decide +kernel
theorem rs_0_185 : zres 0 185 = some 89 := by decide +kernel
theorem rs_0_193 : zres 0 193 = some 90 := by decide +kernel
theorem rs_0_213 : zres 0 213 = some 27 := by decide +kernel
theorem rs_0_217 : zres 0 217 = some 93 := by decide +kernel
theorem rs_0_269 : zres 0 269 = some 21 := by decide +kernel
theorem rs_0_272 : zres 0 272 = some 1001 := by decide +kernel
theorem rs_0_279 : zres 0 279 = some 26 := by decide +kernel
theorem rs_0_282 : zres 0 282 = some 36 := by decide +kernel
theorem rs_0_318 : zres 0 318 = some 1002 := by decide +kernel
theorem rs_0_362 : zres 0 362 = some 144 := by decide +kernel
theorem rs_1_128 : zres 1 128 = some 28 := by decide +kernel
theorem rs_1_134 : zres 1 134 = some 29 := by decide +kernel
theorem rs_1_138 : zres 1 138 = some 35 := by decide +kernel
theorem rs_1_142 : zres 1 142 = some 27 := by decide +kernel
theorem rs_1_146 : zres 1 146 = some 37 := by decide +kernel
theorem rs_1_150 : zres 1 150 = some 1001 := by decide +kernel
theorem rs_1_156 : zres 1 156 = some 26 := by decide +kernel
theorem rs_1_159 : zres 1 159 = some 36 := by decide +kernel
theorem rs_1_162 : zres 1 162 = some 38 := by decide +kernel
theorem rs_1_166 : zres 1 166 = some 46 := by decide +kernel
theorem rs_1_170 : zres 1 170 = some 47 := by decide +kernel
theorem rs_1_174 : zres 1 174 = some 39 := by decide +kernel
theorem rs_1_181 : zres 1 181 = some 40 := by decide +kernel
theorem rs_1_187 : zres 1 187 = some 42 := by decide +kernel
theorem rs_1_195 : zres 1 195 = some 23 := by decide +kernel
theorem rs_1_199 : zres 1 199 = some 44 := by decide +kernel
theorem rs_1_205 : zres 1 205 = some 45 := by decide +kernel
theorem rs_1_212 : zres 1 212 = some 19 := by decide +kernel
theorem rs_2_24 : zres 2 24 = some 1000 := by decide +kernel
theorem rs_2_52 : zres 2 52 = some 1002 := by decide +kernel
theorem rs_4_31 : zres 4 31 = some 82 := by decide +kernel
theorem rs_4_35 : zres 4 35 = some 1000 := by decide +kernel
theorem rs_4_48 : zres 4 48 = some 30 := by decide +kernel
theorem rs_5_21 : zres 5 21 = some 1000 := by decide +kernel
theorem rs_5_31 : zres 5 31 = some 1001 := by decide +kernel
theorem rs_5_37 : zres 5 37 = some 31 := by decide +kernel
theorem rs_5_41 : zres 5 41 = some 32 := by decide +kernel
theorem rs_5_45 : zres 5 45 = some 33 := by decide +kernel
theorem rs_5_49 : zres 5 49 = some 34 := by decide +kernel
theorem rs_5_52 : zres 5 52 = some 28 := by decide +kernel
theorem rs_6_33 : zres 6 33 = some 1000 := by decide +kernel
theorem rs_6_43 : zres 6 43 = some 19 := by decide +kernel
theorem rs_6_47 : zres 6 47 = some 41 := by decide +kernel
theorem rs_6_51 : zres 6 51 = some 42 := by decide +kernel
theorem rs_6_55 : zres 6 55 = some 43 := by decide +kernel
theorem rs_7_16 : zres 7 16 = some 82 := by decide +kernel
theorem rs_7_27 : zres 7 27 = some 30 := by decide +kernel
theorem rs_9_61 : zres 9 61 = some 54 := by decide +kernel
theorem rs_9_67 : zres 9 67 = some 68 := by decide +kernel
theorem rs_9_73 : zres 9 73 = some 55 := by decide +kernel
theorem rs_9_77 : zres 9 77 = some 56 := by decide +kernel
theorem rs_9_81 : zres 9 81 = some 64 := by decide +kernel
theorem rs_9_85 : zres 9 85 = some 65 := by decide +kernel
theorem rs_9_88 : zres 9 88 = some 66 := by decide +kernel
theorem rs_9_91 : zres 9 91 = some 67 := by decide +kernel
theorem rs_9_97 : zres 9 97 = some 57 := by decide +kernel
theorem rs_9_103 : zres 9 103 = some 59 := by decide +kernel
theorem rs_9_113 : zres 9 113 = some 70 := by decide +kernel
theorem rs_9_116 : zres 9 116 = some 13 := by decide +kernel
theorem rs_9_132 : zres 9 132 = some 71 := by decide +kernel
theorem rs_9_136 : zres 9 136 = some 76 := by decide +kernel
theorem rs_9_140 : zres 9 140 = some 78 := by decide +kernel
theorem rs_9_143 : zres 9 143 = some 80 := by decide +kernel
theorem rs_9_150 : zres 9 150 = some 77 := by decide +kernel
theorem rs_9_153 : zres 9 153 = some 74 := by decide +kernel
theorem rs_9_156 : zres 9 156 = some 79 := by decide +kernel
theorem rs_9_159 : zres 9 159 = some 75 := by decide +kernel
theorem rs_9_163 : zres 9 163 = some 72 := by decide +kernel
theorem rs_9_166 : zres 9 166 = some 73 := by decide +kernel
theorem rs_9_175 : zres 9 175 = some 86 := by decide +kernel
theorem rs_9_191 : zres 9 191 = some 87 := by decide +kernel
theorem rs_12_335 : zres 12 335 = some 58 := by decide +kernel
theorem rs_12_492 : zres 12 492 = some 60 := by decide +kernel
theorem rs_12_495 : zres 12 495 = some 61 := by decide +kernel
theorem rs_12_1059 : zres 12 1059 = some 63 := by decide +kernel
theorem rs_17_9 : zres 17 9 = some 62 := by decide +kernel
theorem st_9_95 : zstr 9 95 = some 0 := by decide +kernel
theorem kn_2_58 : zcon 2 58 = some (1664525 : Int32) := by decide +kernel
theorem kn_2_59 : zcon 2 59 = some (1013904223 : Int32) := by decide +kernel
theorem kn_16_265 : zcon 16 265 = some (1431655765 : Int32) := by decide +kernel
theorem kn_16_266 : zcon 16 266 = some (858993459 : Int32) := by decide +kernel
theorem kn_16_267 : zcon 16 267 = some (252645135 : Int32) := by decide +kernel
theorem ks_2_58 : zstr 2 58 = none := by decide +kernel
theorem ks_2_59 : zstr 2 59 = none := by decide +kernel
theorem ci_0 : Int32.ofInt (0) = (0 : Int32) := by decide
theorem ci_1 : Int32.ofInt (1) = (1 : Int32) := by decide
theorem ci_2 : Int32.ofInt (2) = (2 : Int32) := by decide
theorem ci_3 : Int32.ofInt (3) = (3 : Int32) := by decide
theorem ci_4 : Int32.ofInt (4) = (4 : Int32) := by decide
theorem ci_5 : Int32.ofInt (5) = (5 : Int32) := by decide
theorem ci_m1 : Int32.ofInt (-1) = (-1 : Int32) := by decide
theorem ci_m8 : Int32.ofInt (-8) = (-8 : Int32) := by decide
theorem cb_10 : (Int8.ofInt (10)).toInt32 = (10 : Int32) := by decide
theorem cb_100 : (Int8.ofInt (100)).toInt32 = (100 : Int32) := by decide
theorem cb_12 : (Int8.ofInt (12)).toInt32 = (12 : Int32) := by decide
theorem cb_122 : (Int8.ofInt (122)).toInt32 = (122 : Int32) := by decide
theorem cb_16 : (Int8.ofInt (16)).toInt32 = (16 : Int32) := by decide
theorem cb_20 : (Int8.ofInt (20)).toInt32 = (20 : Int32) := by decide
theorem cb_24 : (Int8.ofInt (24)).toInt32 = (24 : Int32) := by decide
theorem cb_32 : (Int8.ofInt (32)).toInt32 = (32 : Int32) := by decide
theorem cb_40 : (Int8.ofInt (40)).toInt32 = (40 : Int32) := by decide
theorem cb_41 : (Int8.ofInt (41)).toInt32 = (41 : Int32) := by decide
theorem cb_42 : (Int8.ofInt (42)).toInt32 = (42 : Int32) := by decide
theorem cb_43 : (Int8.ofInt (43)).toInt32 = (43 : Int32) := by decide
theorem cb_45 : (Int8.ofInt (45)).toInt32 = (45 : Int32) := by decide
theorem cb_47 : (Int8.ofInt (47)).toInt32 = (47 : Int32) := by decide
theorem cb_48 : (Int8.ofInt (48)).toInt32 = (48 : Int32) := by decide
theorem cb_57 : (Int8.ofInt (57)).toInt32 = (57 : Int32) := by decide
theorem cb_59 : (Int8.ofInt (59)).toInt32 = (59 : Int32) := by decide
theorem cb_6 : (Int8.ofInt (6)).toInt32 = (6 : Int32) := by decide
theorem cb_60 : (Int8.ofInt (60)).toInt32 = (60 : Int32) := by decide
theorem cb_61 : (Int8.ofInt (61)).toInt32 = (61 : Int32) := by decide
theorem cb_62 : (Int8.ofInt (62)).toInt32 = (62 : Int32) := by decide
theorem cb_63 : (Int8.ofInt (63)).toInt32 = (63 : Int32) := by decide
theorem cb_64 : (Int8.ofInt (64)).toInt32 = (64 : Int32) := by decide
theorem cb_65 : (Int8.ofInt (65)).toInt32 = (65 : Int32) := by decide
theorem cb_7 : (Int8.ofInt (7)).toInt32 = (7 : Int32) := by decide
theorem cb_8 : (Int8.ofInt (8)).toInt32 = (8 : Int32) := by decide
theorem cb_9 : (Int8.ofInt (9)).toInt32 = (9 : Int32) := by decide
theorem cb_90 : (Int8.ofInt (90)).toInt32 = (90 : Int32) := by decide
theorem cb_97 : (Int8.ofInt (97)).toInt32 = (97 : Int32) := by decide
theorem cb_99 : (Int8.ofInt (99)).toInt32 = (99 : Int32) := by decide
theorem cb_m2 : (Int8.ofInt (-2)).toInt32 = (-2 : Int32) := by decide
theorem cb_m3 : (Int8.ofInt (-3)).toInt32 = (-3 : Int32) := by decide
theorem cs_1000 : (Int16.ofInt (1000)).toInt32 = (1000 : Int32) := by decide
theorem cs_150 : (Int16.ofInt (150)).toInt32 = (150 : Int32) := by decide
theorem cs_255 : (Int16.ofInt (255)).toInt32 = (255 : Int32) := by decide
theorem cs_256 : (Int16.ofInt (256)).toInt32 = (256 : Int32) := by decide
theorem cs_257 : (Int16.ofInt (257)).toInt32 = (257 : Int32) := by decide
theorem cs_258 : (Int16.ofInt (258)).toInt32 = (258 : Int32) := by decide
theorem cs_259 : (Int16.ofInt (259)).toInt32 = (259 : Int32) := by decide
theorem cs_260 : (Int16.ofInt (260)).toInt32 = (260 : Int32) := by decide
theorem cs_261 : (Int16.ofInt (261)).toInt32 = (261 : Int32) := by decide
theorem cs_262 : (Int16.ofInt (262)).toInt32 = (262 : Int32) := by decide
theorem cs_263 : (Int16.ofInt (263)).toInt32 = (263 : Int32) := by decide
theorem cs_271 : (Int16.ofInt (271)).toInt32 = (271 : Int32) := by decide
theorem cs_272 : (Int16.ofInt (272)).toInt32 = (272 : Int32) := by decide
theorem cs_273 : (Int16.ofInt (273)).toInt32 = (273 : Int32) := by decide
theorem cs_274 : (Int16.ofInt (274)).toInt32 = (274 : Int32) := by decide
theorem cs_275 : (Int16.ofInt (275)).toInt32 = (275 : Int32) := by decide
theorem cs_276 : (Int16.ofInt (276)).toInt32 = (276 : Int32) := by decide
theorem cs_277 : (Int16.ofInt (277)).toInt32 = (277 : Int32) := by decide
theorem cs_278 : (Int16.ofInt (278)).toInt32 = (278 : Int32) := by decide
theorem cs_279 : (Int16.ofInt (279)).toInt32 = (279 : Int32) := by decide
theorem cs_300 : (Int16.ofInt (300)).toInt32 = (300 : Int32) := by decide
theorem cs_301 : (Int16.ofInt (301)).toInt32 = (301 : Int32) := by decide
theorem cs_400 : (Int16.ofInt (400)).toInt32 = (400 : Int32) := by decide
theorem cs_4096 : (Int16.ofInt (4096)).toInt32 = (4096 : Int32) := by decide
theorem cs_999 : (Int16.ofInt (999)).toInt32 = (999 : Int32) := by decide
theorem cs_9999 : (Int16.ofInt (9999)).toInt32 = (9999 : Int32) := by decide
theorem zin_0_9 : zin 0 9 = true := by decide
theorem zin_1_9 : zin 1 9 = true := by decide
theorem zin_2_9 : zin 2 9 = true := by decide
theorem zin_3_9 : zin 3 9 = true := by decide
theorem zin_4_9 : zin 4 9 = true := by decide
theorem zin_5_9 : zin 5 9 = true := by decide
theorem zin_6_9 : zin 6 9 = true := by decide
theorem zin_7_9 : zin 7 9 = true := by decide
theorem zin_8_9 : zin 8 9 = true := by decide
theorem zi_0 : zi 0 = 0 := by decide
theorem zi_1 : zi 1 = 1 := by decide
theorem zi_2 : zi 2 = 2 := by decide
theorem zi_3 : zi 3 = 3 := by decide
theorem zi_4 : zi 4 = 4 := by decide
theorem zi_5 : zi 5 = 5 := by decide
theorem zi_6 : zi 6 = 6 := by decide
theorem zi_7 : zi 7 = 7 := by decide
theorem zi_8 : zi 8 = 8 := by decide
theorem zsh_0 : 0 < zSR.length := by decide
theorem zX_jn {α γ : Type} {q : ZQ} {d y pc : Nat} {ls : List Slot} {st : List Value} {M : ZI} {E : α → Option Value → ZI → Prop} {g : γ} {f : γ → Option α} (P : γ → Prop) (hg : P g) (h : ∀ g, P g → zX q d y pc ls st M (f g) E) : zX q d y pc ls st M (zlet g f) E := h g hg
theorem zX_lsh {α : Type} {q : ZQ} {d y pc p : Nat} {ls : List Slot} {st : List Value} {M : ZI} {o : Option α} {E : α → Option Value → ZI → Prop} {d0 : Int} {ps : Array (Int × Int)} {len : Nat} {x c : Int32} {off n : Int} (hd : zdec y pc = some (.lookupswitch d0 ps, len)) (hx : x = c) (hc : c.toInt = n) (hs : ((ps.toList.zip (ps.toList.drop 1)).all (fun (a, next) => a.1 < next.1)) = true) (ho : Op.lookupswitch.offset ps.toList d0 n = off) (hp : (pc : Int) + off = (p : Int)) (h : zX q d y p ls st M o E) : zX q d y pc ls (.int x :: st) M o E := by
  subst hx
  refine zX_step hd ?_ h
  simp only [zstep]
  rw [if_pos hs, hc, ho]
  simp [zto, hp]
theorem zX_lsd {α : Type} {q : ZQ} {d y pc p : Nat} {ls : List Slot} {st : List Value} {M : ZI} {o : Option α} {E : α → Option Value → ZI → Prop} {d0 : Int} {ps : Array (Int × Int)} {len : Nat} {x : Int32} (hd : zdec y pc = some (.lookupswitch d0 ps, len)) (hs : ((ps.toList.zip (ps.toList.drop 1)).all (fun (a, next) => a.1 < next.1)) = true) (ho : Op.lookupswitch.offset ps.toList d0 x.toInt = d0) (hp : (pc : Int) + d0 = (p : Int)) (h : zX q d y p ls st M o E) : zX q d y pc ls (.int x :: st) M o E := by
  refine zX_step hd ?_ h
  simp only [zstep]
  rw [if_pos hs, ho]
  simp [zto, hp]
def zsnR (s : Nat) : Nat := (zSR.getD s []).length
def zslnR (s : Nat) : Int32 := zshr (Int32.ofNat (zsnR s)) 0
def zchR (s : Nat) (i : Int32) : Int32 := (((zSR.getD s []).getD (zi i) 0 &&& 255).toUInt32 % 65536).toInt32
theorem zSB_0 : zSB.getD 0 [] = zSR.getD 0 [] := by decide +kernel
theorem zsn_0 : zsn 0 = zsnR 0 := by unfold zsn zsnR; rw [zSB_0]
theorem zsln_0 : zsln 0 = zslnR 0 := by unfold zsln zslnR; rw [zsn_0]
theorem zch_0 (i : Int32) : zch 0 i = zchR 0 i := by unfold zch zchR; rw [zSB_0]
