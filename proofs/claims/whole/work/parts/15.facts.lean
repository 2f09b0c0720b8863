-- ===== FACTS of the tables and of the heap that stands, as the walks name them =====
theorem zin_lt {i : Int32} {n : Nat} (h : zin i n = true) : ¬ i < 0 ∧ zi i < n := by
  have h := of_decide_eq_true h
  exact ⟨fun h1 => h (Or.inl h1), Nat.lt_of_not_le fun h1 => h (Or.inr h1)⟩
def zRL : List (Nat × Nat × Nat) := [(0, 0, 1), (0, 1, 42), (0, 3, 83), (0, 6, 114), (0, 7, 119), (0, 8, 147), (1, 0, 2), (1, 1, 7), (1, 2, 12), (1, 3, 21), (1, 4, 29), (1, 5, 34), (1, 6, 37), (1, 7, 38), (1, 8, 39), (1, 9, 40), (1, 10, 41), (2, 0, 3), (2, 1, 4), (2, 2, 5), (2, 3, 6), (7, 0, 8), (7, 1, 9), (7, 2, 10), (7, 3, 11), (12, 0, 13), (12, 1, 17), (12, 2, 18), (12, 3, 19), (12, 4, 20), (13, 0, 14), (13, 1, 15), (13, 2, 16), (21, 0, 22), (21, 1, 23), (21, 2, 24), (21, 3, 25), (21, 4, 26), (21, 5, 27), (21, 7, 28), (29, 0, 30), (30, 0, 31), (30, 1, 32), (30, 2, 33), (34, 0, 35), (34, 1, 36), (42, 0, 43), (42, 1, 48), (42, 2, 53), (42, 3, 62), (42, 4, 70), (42, 5, 75), (42, 6, 78), (42, 7, 79), (42, 8, 80), (42, 9, 81), (42, 10, 82), (43, 0, 44), (43, 1, 45), (43, 2, 46), (43, 3, 47), (48, 0, 49), (48, 1, 50), (48, 2, 51), (48, 3, 52), (53, 0, 54), (53, 1, 58), (53, 2, 59), (53, 3, 60), (53, 4, 61), (54, 0, 55), (54, 1, 56), (54, 2, 57), (62, 0, 63), (62, 1, 64), (62, 2, 65), (62, 3, 66), (62, 4, 67), (62, 5, 68), (62, 7, 69), (70, 0, 71), (71, 0, 72), (71, 1, 73), (71, 2, 74), (75, 0, 76), (75, 1, 77), (83, 0, 84), (83, 1, 89), (83, 2, 94), (83, 3, 99), (83, 4, 104), (83, 5, 109), (84, 0, 85), (84, 1, 86), (84, 2, 87), (84, 3, 88), (89, 0, 90), (89, 1, 91), (89, 2, 92), (89, 3, 93), (94, 0, 95), (94, 1, 96), (94, 2, 97), (94, 3, 98), (99, 0, 100), (99, 1, 101), (99, 2, 102), (99, 3, 103), (104, 0, 105), (104, 1, 106), (104, 2, 107), (104, 3, 108), (109, 0, 110), (109, 1, 111), (109, 2, 112), (109, 3, 113), (114, 0, 115), (114, 1, 116), (114, 2, 117), (114, 3, 118), (119, 0, 120), (119, 2, 121), (119, 3, 122), (119, 4, 123), (119, 12, 124), (119, 13, 133), (119, 14, 134), (119, 15, 142), (124, 0, 125), (124, 1, 129), (124, 2, 130), (124, 3, 131), (124, 4, 132), (125, 0, 126), (125, 1, 127), (125, 2, 128), (134, 0, 135), (134, 1, 136), (134, 2, 137), (134, 3, 138), (134, 4, 139), (134, 5, 140), (134, 7, 141), (142, 0, 143), (143, 0, 144), (143, 1, 145), (143, 2, 146), (148, 0, 149), (148, 1, 150), (148, 2, 151), (148, 3, 152), (148, 6, 153), (148, 7, 154), (148, 8, 155), (148, 9, 156), (148, 10, 157), (148, 11, 158), (148, 12, 159), (148, 13, 160), (148, 31, 161)]
def zRm (o k v : Nat) : Bool := zRL.any fun z => Nat.beq z.1 o && Nat.beq z.2.1 k && Nat.beq z.2.2 v
theorem zRm_mem {o k v : Nat} (h : zRm o k v = true) : (o, k, v) ∈ zRL := by
  obtain ⟨z, hz, h1⟩ := List.any_eq_true.mp h
  simp only [Bool.and_eq_true, Nat.beq_eq] at h1
  obtain ⟨⟨rfl, rfl⟩, rfl⟩ := h1
  exact hz
def zLay (q : ZQ) : Prop := ∀ z ∈ zRL, q.2 z.1 z.2.1 = some z.2.2
def zpa (i : Int32) : Nat := 84 + 5 * zi i
theorem zo_0 : zOb 0 0 := ⟨by decide, rfl⟩
theorem zo_1 : zOb 1 1 := ⟨by decide, rfl⟩
theorem zo_2 : zOb 2 2 := ⟨by decide, rfl⟩
theorem za_3 : zAr 3 10 := ⟨by decide, rfl⟩
theorem za_4 : zAr 4 10 := ⟨by decide, rfl⟩
theorem za_5 : zAr 5 10 := ⟨by decide, rfl⟩
theorem za_6 : zAr 6 10 := ⟨by decide, rfl⟩
theorem zo_7 : zOb 3 7 := ⟨by decide, rfl⟩
theorem za_8 : zAr 8 150 := ⟨by decide, rfl⟩
theorem za_9 : zAr 9 150 := ⟨by decide, rfl⟩
theorem za_10 : zAr 10 150 := ⟨by decide, rfl⟩
theorem za_11 : zAr 11 150 := ⟨by decide, rfl⟩
theorem zo_12 : zOb 4 12 := ⟨by decide, rfl⟩
theorem zo_13 : zOb 5 13 := ⟨by decide, rfl⟩
theorem za_14 : zAr 14 400 := ⟨by decide, rfl⟩
theorem za_15 : zAr 15 400 := ⟨by decide, rfl⟩
theorem za_16 : zAr 16 64 := ⟨by decide, rfl⟩
theorem za_17 : zAr 17 16 := ⟨by decide, rfl⟩
theorem za_18 : zAr 18 16 := ⟨by decide, rfl⟩
theorem za_19 : zAr 19 16 := ⟨by decide, rfl⟩
theorem za_20 : zAr 20 16 := ⟨by decide, rfl⟩
theorem zo_21 : zOb 6 21 := ⟨by decide, rfl⟩
theorem za_22 : zAr 22 12 := ⟨by decide, rfl⟩
theorem za_23 : zAr 23 12 := ⟨by decide, rfl⟩
theorem za_24 : zAr 24 12 := ⟨by decide, rfl⟩
theorem za_25 : zAr 25 12 := ⟨by decide, rfl⟩
theorem za_26 : zAr 26 12 := ⟨by decide, rfl⟩
theorem za_27 : zAr 27 12 := ⟨by decide, rfl⟩
theorem za_28 : zAr 28 12 := ⟨by decide, rfl⟩
theorem zo_29 : zOb 7 29 := ⟨by decide, rfl⟩
theorem zo_30 : zOb 5 30 := ⟨by decide, rfl⟩
theorem za_31 : zAr 31 400 := ⟨by decide, rfl⟩
theorem za_32 : zAr 32 400 := ⟨by decide, rfl⟩
theorem za_33 : zAr 33 64 := ⟨by decide, rfl⟩
theorem zo_34 : zOb 8 34 := ⟨by decide, rfl⟩
theorem za_35 : zAr 35 8 := ⟨by decide, rfl⟩
theorem za_36 : zAr 36 8 := ⟨by decide, rfl⟩
theorem za_37 : zAr 37 10 := ⟨by decide, rfl⟩
theorem za_38 : zAr 38 10 := ⟨by decide, rfl⟩
theorem za_39 : zAr 39 10 := ⟨by decide, rfl⟩
theorem za_40 : zAr 40 10 := ⟨by decide, rfl⟩
theorem za_41 : zAr 41 9 := ⟨by decide, rfl⟩
theorem zo_42 : zOb 1 42 := ⟨by decide, rfl⟩
theorem zo_43 : zOb 2 43 := ⟨by decide, rfl⟩
theorem za_44 : zAr 44 10 := ⟨by decide, rfl⟩
theorem za_45 : zAr 45 10 := ⟨by decide, rfl⟩
theorem za_46 : zAr 46 10 := ⟨by decide, rfl⟩
theorem za_47 : zAr 47 10 := ⟨by decide, rfl⟩
theorem zo_48 : zOb 3 48 := ⟨by decide, rfl⟩
theorem za_49 : zAr 49 150 := ⟨by decide, rfl⟩
theorem za_50 : zAr 50 150 := ⟨by decide, rfl⟩
theorem za_51 : zAr 51 150 := ⟨by decide, rfl⟩
theorem za_52 : zAr 52 150 := ⟨by decide, rfl⟩
theorem zo_53 : zOb 4 53 := ⟨by decide, rfl⟩
theorem zo_54 : zOb 5 54 := ⟨by decide, rfl⟩
theorem za_55 : zAr 55 400 := ⟨by decide, rfl⟩
theorem za_56 : zAr 56 400 := ⟨by decide, rfl⟩
theorem za_57 : zAr 57 64 := ⟨by decide, rfl⟩
theorem za_58 : zAr 58 16 := ⟨by decide, rfl⟩
theorem za_59 : zAr 59 16 := ⟨by decide, rfl⟩
theorem za_60 : zAr 60 16 := ⟨by decide, rfl⟩
theorem za_61 : zAr 61 16 := ⟨by decide, rfl⟩
theorem zo_62 : zOb 6 62 := ⟨by decide, rfl⟩
theorem za_63 : zAr 63 12 := ⟨by decide, rfl⟩
theorem za_64 : zAr 64 12 := ⟨by decide, rfl⟩
theorem za_65 : zAr 65 12 := ⟨by decide, rfl⟩
theorem za_66 : zAr 66 12 := ⟨by decide, rfl⟩
theorem za_67 : zAr 67 12 := ⟨by decide, rfl⟩
theorem za_68 : zAr 68 12 := ⟨by decide, rfl⟩
theorem za_69 : zAr 69 12 := ⟨by decide, rfl⟩
theorem zo_70 : zOb 7 70 := ⟨by decide, rfl⟩
theorem zo_71 : zOb 5 71 := ⟨by decide, rfl⟩
theorem za_72 : zAr 72 400 := ⟨by decide, rfl⟩
theorem za_73 : zAr 73 400 := ⟨by decide, rfl⟩
theorem za_74 : zAr 74 64 := ⟨by decide, rfl⟩
theorem zo_75 : zOb 8 75 := ⟨by decide, rfl⟩
theorem za_76 : zAr 76 8 := ⟨by decide, rfl⟩
theorem za_77 : zAr 77 8 := ⟨by decide, rfl⟩
theorem za_78 : zAr 78 10 := ⟨by decide, rfl⟩
theorem za_79 : zAr 79 10 := ⟨by decide, rfl⟩
theorem za_80 : zAr 80 10 := ⟨by decide, rfl⟩
theorem za_81 : zAr 81 10 := ⟨by decide, rfl⟩
theorem za_82 : zAr 82 9 := ⟨by decide, rfl⟩
theorem zp_83 : 83 < 1000000 ∧ zH0[83]? = some (2, 6) := ⟨by decide, rfl⟩
theorem zo_84 : zOb 2 84 := ⟨by decide, rfl⟩
theorem za_85 : zAr 85 10 := ⟨by decide, rfl⟩
theorem za_86 : zAr 86 10 := ⟨by decide, rfl⟩
theorem za_87 : zAr 87 10 := ⟨by decide, rfl⟩
theorem za_88 : zAr 88 10 := ⟨by decide, rfl⟩
theorem zo_89 : zOb 2 89 := ⟨by decide, rfl⟩
theorem za_90 : zAr 90 10 := ⟨by decide, rfl⟩
theorem za_91 : zAr 91 10 := ⟨by decide, rfl⟩
theorem za_92 : zAr 92 10 := ⟨by decide, rfl⟩
theorem za_93 : zAr 93 10 := ⟨by decide, rfl⟩
theorem zo_94 : zOb 2 94 := ⟨by decide, rfl⟩
theorem za_95 : zAr 95 10 := ⟨by decide, rfl⟩
theorem za_96 : zAr 96 10 := ⟨by decide, rfl⟩
theorem za_97 : zAr 97 10 := ⟨by decide, rfl⟩
theorem za_98 : zAr 98 10 := ⟨by decide, rfl⟩
theorem zo_99 : zOb 2 99 := ⟨by decide, rfl⟩
theorem za_100 : zAr 100 10 := ⟨by decide, rfl⟩
theorem za_101 : zAr 101 10 := ⟨by decide, rfl⟩
theorem za_102 : zAr 102 10 := ⟨by decide, rfl⟩
theorem za_103 : zAr 103 10 := ⟨by decide, rfl⟩
theorem zo_104 : zOb 2 104 := ⟨by decide, rfl⟩
theorem za_105 : zAr 105 10 := ⟨by decide, rfl⟩
theorem za_106 : zAr 106 10 := ⟨by decide, rfl⟩
theorem za_107 : zAr 107 10 := ⟨by decide, rfl⟩
theorem za_108 : zAr 108 10 := ⟨by decide, rfl⟩
theorem zo_109 : zOb 2 109 := ⟨by decide, rfl⟩
theorem za_110 : zAr 110 10 := ⟨by decide, rfl⟩
theorem za_111 : zAr 111 10 := ⟨by decide, rfl⟩
theorem za_112 : zAr 112 10 := ⟨by decide, rfl⟩
theorem za_113 : zAr 113 10 := ⟨by decide, rfl⟩
theorem zo_114 : zOb 2 114 := ⟨by decide, rfl⟩
theorem za_115 : zAr 115 10 := ⟨by decide, rfl⟩
theorem za_116 : zAr 116 10 := ⟨by decide, rfl⟩
theorem za_117 : zAr 117 10 := ⟨by decide, rfl⟩
theorem za_118 : zAr 118 10 := ⟨by decide, rfl⟩
theorem zo_119 : zOb 9 119 := ⟨by decide, rfl⟩
theorem za_120 : zAr 120 400 := ⟨by decide, rfl⟩
theorem za_121 : zAr 121 401 := ⟨by decide, rfl⟩
theorem za_122 : zAr 122 401 := ⟨by decide, rfl⟩
theorem za_123 : zAr 123 401 := ⟨by decide, rfl⟩
theorem zo_124 : zOb 4 124 := ⟨by decide, rfl⟩
theorem zo_125 : zOb 5 125 := ⟨by decide, rfl⟩
theorem za_126 : zAr 126 400 := ⟨by decide, rfl⟩
theorem za_127 : zAr 127 400 := ⟨by decide, rfl⟩
theorem za_128 : zAr 128 64 := ⟨by decide, rfl⟩
theorem za_129 : zAr 129 16 := ⟨by decide, rfl⟩
theorem za_130 : zAr 130 16 := ⟨by decide, rfl⟩
theorem za_131 : zAr 131 16 := ⟨by decide, rfl⟩
theorem za_132 : zAr 132 16 := ⟨by decide, rfl⟩
theorem za_133 : zAr 133 10 := ⟨by decide, rfl⟩
theorem zo_134 : zOb 6 134 := ⟨by decide, rfl⟩
theorem za_135 : zAr 135 12 := ⟨by decide, rfl⟩
theorem za_136 : zAr 136 12 := ⟨by decide, rfl⟩
theorem za_137 : zAr 137 12 := ⟨by decide, rfl⟩
theorem za_138 : zAr 138 12 := ⟨by decide, rfl⟩
theorem za_139 : zAr 139 12 := ⟨by decide, rfl⟩
theorem za_140 : zAr 140 12 := ⟨by decide, rfl⟩
theorem za_141 : zAr 141 12 := ⟨by decide, rfl⟩
theorem zo_142 : zOb 7 142 := ⟨by decide, rfl⟩
theorem zo_143 : zOb 5 143 := ⟨by decide, rfl⟩
theorem za_144 : zAr 144 400 := ⟨by decide, rfl⟩
theorem za_145 : zAr 145 400 := ⟨by decide, rfl⟩
theorem za_146 : zAr 146 64 := ⟨by decide, rfl⟩
theorem zb_147 : zBr 147 1024 := ⟨by decide, rfl⟩
theorem zo_148 : zOb 10 148 := ⟨by decide, rfl⟩
theorem za_149 : zAr 149 2064 := ⟨by decide, rfl⟩
theorem za_150 : zAr 150 2064 := ⟨by decide, rfl⟩
theorem za_151 : zAr 151 288 := ⟨by decide, rfl⟩
theorem za_152 : zAr 152 48 := ⟨by decide, rfl⟩
theorem za_153 : zAr 153 64 := ⟨by decide, rfl⟩
theorem za_154 : zAr 154 820 := ⟨by decide, rfl⟩
theorem za_155 : zAr 155 10 := ⟨by decide, rfl⟩
theorem za_156 : zAr 156 72 := ⟨by decide, rfl⟩
theorem za_157 : zAr 157 400 := ⟨by decide, rfl⟩
theorem za_158 : zAr 158 400 := ⟨by decide, rfl⟩
theorem za_159 : zAr 159 420 := ⟨by decide, rfl⟩
theorem za_160 : zAr 160 10 := ⟨by decide, rfl⟩
theorem za_161 : zAr 161 11264 := ⟨by decide, rfl⟩
theorem zo_pa {i : Int32} (h : zin i 6 = true) : zOb 2 (zpa i) := by
  have hd : ∀ j < 6, 84 + 5 * j < 1000000 ∧ zH0[84 + 5 * j]? = some (5, 11) := by decide
  exact hd _ (zin_lt h).2
theorem zr_pa {q : ZQ} (hL : zLay q) {i : Int32} (h : zin i 6 = true) : q.2 83 (zi i) = some (zpa i) := by
  have hd : ∀ j < 6, zRm 83 j (84 + 5 * j) = true := by decide +kernel
  exact hL _ (zRm_mem (hd _ (zin_lt h).2))
theorem zH0_lt {o : Nat} {x : Nat × Nat} (h : zH0[o]? = some x) : o < 162 := by
  obtain ⟨h1, _⟩ := List.getElem?_eq_some_iff.mp h
  exact h1
theorem zr_0_0 {q : ZQ} (hL : zLay q) {o : Nat} (h : zOb 0 o) : q.2 o 0 = some (o + 1) := by
  have hd : ∀ o < 162, zH0[o]? = some (3, 9) → zRm o 0 (o + 1) = true := by decide +kernel
  exact hL _ (zRm_mem (hd o (zH0_lt h.2) h.2))
theorem zr_0_1 {q : ZQ} (hL : zLay q) {o : Nat} (h : zOb 0 o) : q.2 o 1 = some (o + 42) := by
  have hd : ∀ o < 162, zH0[o]? = some (3, 9) → zRm o 1 (o + 42) = true := by decide +kernel
  exact hL _ (zRm_mem (hd o (zH0_lt h.2) h.2))
theorem zr_0_3 {q : ZQ} (hL : zLay q) {o : Nat} (h : zOb 0 o) : q.2 o 3 = some (o + 83) := by
  have hd : ∀ o < 162, zH0[o]? = some (3, 9) → zRm o 3 (o + 83) = true := by decide +kernel
  exact hL _ (zRm_mem (hd o (zH0_lt h.2) h.2))
theorem zr_0_6 {q : ZQ} (hL : zLay q) {o : Nat} (h : zOb 0 o) : q.2 o 6 = some (o + 114) := by
  have hd : ∀ o < 162, zH0[o]? = some (3, 9) → zRm o 6 (o + 114) = true := by decide +kernel
  exact hL _ (zRm_mem (hd o (zH0_lt h.2) h.2))
theorem zr_0_7 {q : ZQ} (hL : zLay q) {o : Nat} (h : zOb 0 o) : q.2 o 7 = some (o + 119) := by
  have hd : ∀ o < 162, zH0[o]? = some (3, 9) → zRm o 7 (o + 119) = true := by decide +kernel
  exact hL _ (zRm_mem (hd o (zH0_lt h.2) h.2))
theorem zr_0_8 {q : ZQ} (hL : zLay q) {o : Nat} (h : zOb 0 o) : q.2 o 8 = some (o + 147) := by
  have hd : ∀ o < 162, zH0[o]? = some (3, 9) → zRm o 8 (o + 147) = true := by decide +kernel
  exact hL _ (zRm_mem (hd o (zH0_lt h.2) h.2))
theorem zr_1_0 {q : ZQ} (hL : zLay q) {o : Nat} (h : zOb 1 o) : q.2 o 0 = some (o + 1) := by
  have hd : ∀ o < 162, zH0[o]? = some (4, 16) → zRm o 0 (o + 1) = true := by decide +kernel
  exact hL _ (zRm_mem (hd o (zH0_lt h.2) h.2))
theorem zso_1_0 {o : Nat} (h : zOb 1 o) : zOb 2 (o + 1) := by
  have hd : ∀ o < 162, zH0[o]? = some (4, 16) → o + 1 < 1000000 ∧ zH0[o + 1]? = some (5, 11) := by decide +kernel
  exact hd o (zH0_lt h.2) h.2
theorem zr_1_1 {q : ZQ} (hL : zLay q) {o : Nat} (h : zOb 1 o) : q.2 o 1 = some (o + 6) := by
  have hd : ∀ o < 162, zH0[o]? = some (4, 16) → zRm o 1 (o + 6) = true := by decide +kernel
  exact hL _ (zRm_mem (hd o (zH0_lt h.2) h.2))
theorem zso_1_1 {o : Nat} (h : zOb 1 o) : zOb 3 (o + 6) := by
  have hd : ∀ o < 162, zH0[o]? = some (4, 16) → o + 6 < 1000000 ∧ zH0[o + 6]? = some (6, 4) := by decide +kernel
  exact hd o (zH0_lt h.2) h.2
theorem zr_1_2 {q : ZQ} (hL : zLay q) {o : Nat} (h : zOb 1 o) : q.2 o 2 = some (o + 11) := by
  have hd : ∀ o < 162, zH0[o]? = some (4, 16) → zRm o 2 (o + 11) = true := by decide +kernel
  exact hL _ (zRm_mem (hd o (zH0_lt h.2) h.2))
theorem zso_1_2 {o : Nat} (h : zOb 1 o) : zOb 4 (o + 11) := by
  have hd : ∀ o < 162, zH0[o]? = some (4, 16) → o + 11 < 1000000 ∧ zH0[o + 11]? = some (7, 6) := by decide +kernel
  exact hd o (zH0_lt h.2) h.2
theorem zr_1_3 {q : ZQ} (hL : zLay q) {o : Nat} (h : zOb 1 o) : q.2 o 3 = some (o + 20) := by
  have hd : ∀ o < 162, zH0[o]? = some (4, 16) → zRm o 3 (o + 20) = true := by decide +kernel
  exact hL _ (zRm_mem (hd o (zH0_lt h.2) h.2))
theorem zso_1_3 {o : Nat} (h : zOb 1 o) : zOb 6 (o + 20) := by
  have hd : ∀ o < 162, zH0[o]? = some (4, 16) → o + 20 < 1000000 ∧ zH0[o + 20]? = some (9, 10) := by decide +kernel
  exact hd o (zH0_lt h.2) h.2
theorem zr_1_4 {q : ZQ} (hL : zLay q) {o : Nat} (h : zOb 1 o) : q.2 o 4 = some (o + 28) := by
  have hd : ∀ o < 162, zH0[o]? = some (4, 16) → zRm o 4 (o + 28) = true := by decide +kernel
  exact hL _ (zRm_mem (hd o (zH0_lt h.2) h.2))
theorem zso_1_4 {o : Nat} (h : zOb 1 o) : zOb 7 (o + 28) := by
  have hd : ∀ o < 162, zH0[o]? = some (4, 16) → o + 28 < 1000000 ∧ zH0[o + 28]? = some (10, 2) := by decide +kernel
  exact hd o (zH0_lt h.2) h.2
theorem zr_1_5 {q : ZQ} (hL : zLay q) {o : Nat} (h : zOb 1 o) : q.2 o 5 = some (o + 33) := by
  have hd : ∀ o < 162, zH0[o]? = some (4, 16) → zRm o 5 (o + 33) = true := by decide +kernel
  exact hL _ (zRm_mem (hd o (zH0_lt h.2) h.2))
theorem zso_1_5 {o : Nat} (h : zOb 1 o) : zOb 8 (o + 33) := by
  have hd : ∀ o < 162, zH0[o]? = some (4, 16) → o + 33 < 1000000 ∧ zH0[o + 33]? = some (11, 3) := by decide +kernel
  exact hd o (zH0_lt h.2) h.2
theorem zr_1_6 {q : ZQ} (hL : zLay q) {o : Nat} (h : zOb 1 o) : q.2 o 6 = some (o + 36) := by
  have hd : ∀ o < 162, zH0[o]? = some (4, 16) → zRm o 6 (o + 36) = true := by decide +kernel
  exact hL _ (zRm_mem (hd o (zH0_lt h.2) h.2))
theorem zsa_1_6 {o : Nat} (h : zOb 1 o) : zAr (o + 36) 10 := by
  have hd : ∀ o < 162, zH0[o]? = some (4, 16) → o + 36 < 1000000 ∧ zH0[o + 36]? = some (0, 10) := by decide +kernel
  exact hd o (zH0_lt h.2) h.2
theorem zr_1_7 {q : ZQ} (hL : zLay q) {o : Nat} (h : zOb 1 o) : q.2 o 7 = some (o + 37) := by
  have hd : ∀ o < 162, zH0[o]? = some (4, 16) → zRm o 7 (o + 37) = true := by decide +kernel
  exact hL _ (zRm_mem (hd o (zH0_lt h.2) h.2))
theorem zsa_1_7 {o : Nat} (h : zOb 1 o) : zAr (o + 37) 10 := by
  have hd : ∀ o < 162, zH0[o]? = some (4, 16) → o + 37 < 1000000 ∧ zH0[o + 37]? = some (0, 10) := by decide +kernel
  exact hd o (zH0_lt h.2) h.2
theorem zr_1_8 {q : ZQ} (hL : zLay q) {o : Nat} (h : zOb 1 o) : q.2 o 8 = some (o + 38) := by
  have hd : ∀ o < 162, zH0[o]? = some (4, 16) → zRm o 8 (o + 38) = true := by decide +kernel
  exact hL _ (zRm_mem (hd o (zH0_lt h.2) h.2))
theorem zsa_1_8 {o : Nat} (h : zOb 1 o) : zAr (o + 38) 10 := by
  have hd : ∀ o < 162, zH0[o]? = some (4, 16) → o + 38 < 1000000 ∧ zH0[o + 38]? = some (0, 10) := by decide +kernel
  exact hd o (zH0_lt h.2) h.2
theorem zr_1_9 {q : ZQ} (hL : zLay q) {o : Nat} (h : zOb 1 o) : q.2 o 9 = some (o + 39) := by
  have hd : ∀ o < 162, zH0[o]? = some (4, 16) → zRm o 9 (o + 39) = true := by decide +kernel
  exact hL _ (zRm_mem (hd o (zH0_lt h.2) h.2))
theorem zsa_1_9 {o : Nat} (h : zOb 1 o) : zAr (o + 39) 10 := by
  have hd : ∀ o < 162, zH0[o]? = some (4, 16) → o + 39 < 1000000 ∧ zH0[o + 39]? = some (0, 10) := by decide +kernel
  exact hd o (zH0_lt h.2) h.2
theorem zr_1_10 {q : ZQ} (hL : zLay q) {o : Nat} (h : zOb 1 o) : q.2 o 10 = some (o + 40) := by
  have hd : ∀ o < 162, zH0[o]? = some (4, 16) → zRm o 10 (o + 40) = true := by decide +kernel
  exact hL _ (zRm_mem (hd o (zH0_lt h.2) h.2))
theorem zsa_1_10 {o : Nat} (h : zOb 1 o) : zAr (o + 40) 9 := by
  have hd : ∀ o < 162, zH0[o]? = some (4, 16) → o + 40 < 1000000 ∧ zH0[o + 40]? = some (0, 9) := by decide +kernel
  exact hd o (zH0_lt h.2) h.2
theorem zr_2_0 {q : ZQ} (hL : zLay q) {o : Nat} (h : zOb 2 o) : q.2 o 0 = some (o + 1) := by
  have hd : ∀ o < 162, zH0[o]? = some (5, 11) → zRm o 0 (o + 1) = true := by decide +kernel
  exact hL _ (zRm_mem (hd o (zH0_lt h.2) h.2))
theorem zsa_2_0 {o : Nat} (h : zOb 2 o) : zAr (o + 1) 10 := by
  have hd : ∀ o < 162, zH0[o]? = some (5, 11) → o + 1 < 1000000 ∧ zH0[o + 1]? = some (0, 10) := by decide +kernel
  exact hd o (zH0_lt h.2) h.2
theorem zr_2_1 {q : ZQ} (hL : zLay q) {o : Nat} (h : zOb 2 o) : q.2 o 1 = some (o + 2) := by
  have hd : ∀ o < 162, zH0[o]? = some (5, 11) → zRm o 1 (o + 2) = true := by decide +kernel
  exact hL _ (zRm_mem (hd o (zH0_lt h.2) h.2))
theorem zsa_2_1 {o : Nat} (h : zOb 2 o) : zAr (o + 2) 10 := by
  have hd : ∀ o < 162, zH0[o]? = some (5, 11) → o + 2 < 1000000 ∧ zH0[o + 2]? = some (0, 10) := by decide +kernel
  exact hd o (zH0_lt h.2) h.2
theorem zr_2_2 {q : ZQ} (hL : zLay q) {o : Nat} (h : zOb 2 o) : q.2 o 2 = some (o + 3) := by
  have hd : ∀ o < 162, zH0[o]? = some (5, 11) → zRm o 2 (o + 3) = true := by decide +kernel
  exact hL _ (zRm_mem (hd o (zH0_lt h.2) h.2))
theorem zsa_2_2 {o : Nat} (h : zOb 2 o) : zAr (o + 3) 10 := by
  have hd : ∀ o < 162, zH0[o]? = some (5, 11) → o + 3 < 1000000 ∧ zH0[o + 3]? = some (0, 10) := by decide +kernel
  exact hd o (zH0_lt h.2) h.2
theorem zr_2_3 {q : ZQ} (hL : zLay q) {o : Nat} (h : zOb 2 o) : q.2 o 3 = some (o + 4) := by
  have hd : ∀ o < 162, zH0[o]? = some (5, 11) → zRm o 3 (o + 4) = true := by decide +kernel
  exact hL _ (zRm_mem (hd o (zH0_lt h.2) h.2))
theorem zsa_2_3 {o : Nat} (h : zOb 2 o) : zAr (o + 4) 10 := by
  have hd : ∀ o < 162, zH0[o]? = some (5, 11) → o + 4 < 1000000 ∧ zH0[o + 4]? = some (0, 10) := by decide +kernel
  exact hd o (zH0_lt h.2) h.2
theorem zr_3_0 {q : ZQ} (hL : zLay q) {o : Nat} (h : zOb 3 o) : q.2 o 0 = some (o + 1) := by
  have hd : ∀ o < 162, zH0[o]? = some (6, 4) → zRm o 0 (o + 1) = true := by decide +kernel
  exact hL _ (zRm_mem (hd o (zH0_lt h.2) h.2))
theorem zsa_3_0 {o : Nat} (h : zOb 3 o) : zAr (o + 1) 150 := by
  have hd : ∀ o < 162, zH0[o]? = some (6, 4) → o + 1 < 1000000 ∧ zH0[o + 1]? = some (0, 150) := by decide +kernel
  exact hd o (zH0_lt h.2) h.2
theorem zr_3_1 {q : ZQ} (hL : zLay q) {o : Nat} (h : zOb 3 o) : q.2 o 1 = some (o + 2) := by
  have hd : ∀ o < 162, zH0[o]? = some (6, 4) → zRm o 1 (o + 2) = true := by decide +kernel
  exact hL _ (zRm_mem (hd o (zH0_lt h.2) h.2))
theorem zsa_3_1 {o : Nat} (h : zOb 3 o) : zAr (o + 2) 150 := by
  have hd : ∀ o < 162, zH0[o]? = some (6, 4) → o + 2 < 1000000 ∧ zH0[o + 2]? = some (0, 150) := by decide +kernel
  exact hd o (zH0_lt h.2) h.2
theorem zr_3_2 {q : ZQ} (hL : zLay q) {o : Nat} (h : zOb 3 o) : q.2 o 2 = some (o + 3) := by
  have hd : ∀ o < 162, zH0[o]? = some (6, 4) → zRm o 2 (o + 3) = true := by decide +kernel
  exact hL _ (zRm_mem (hd o (zH0_lt h.2) h.2))
theorem zsa_3_2 {o : Nat} (h : zOb 3 o) : zAr (o + 3) 150 := by
  have hd : ∀ o < 162, zH0[o]? = some (6, 4) → o + 3 < 1000000 ∧ zH0[o + 3]? = some (0, 150) := by decide +kernel
  exact hd o (zH0_lt h.2) h.2
theorem zr_3_3 {q : ZQ} (hL : zLay q) {o : Nat} (h : zOb 3 o) : q.2 o 3 = some (o + 4) := by
  have hd : ∀ o < 162, zH0[o]? = some (6, 4) → zRm o 3 (o + 4) = true := by decide +kernel
  exact hL _ (zRm_mem (hd o (zH0_lt h.2) h.2))
theorem zsa_3_3 {o : Nat} (h : zOb 3 o) : zAr (o + 4) 150 := by
  have hd : ∀ o < 162, zH0[o]? = some (6, 4) → o + 4 < 1000000 ∧ zH0[o + 4]? = some (0, 150) := by decide +kernel
  exact hd o (zH0_lt h.2) h.2
theorem zr_4_0 {q : ZQ} (hL : zLay q) {o : Nat} (h : zOb 4 o) : q.2 o 0 = some (o + 1) := by
  have hd : ∀ o < 162, zH0[o]? = some (7, 6) → zRm o 0 (o + 1) = true := by decide +kernel
  exact hL _ (zRm_mem (hd o (zH0_lt h.2) h.2))
theorem zso_4_0 {o : Nat} (h : zOb 4 o) : zOb 5 (o + 1) := by
  have hd : ∀ o < 162, zH0[o]? = some (7, 6) → o + 1 < 1000000 ∧ zH0[o + 1]? = some (8, 4) := by decide +kernel
  exact hd o (zH0_lt h.2) h.2
theorem zr_4_1 {q : ZQ} (hL : zLay q) {o : Nat} (h : zOb 4 o) : q.2 o 1 = some (o + 5) := by
  have hd : ∀ o < 162, zH0[o]? = some (7, 6) → zRm o 1 (o + 5) = true := by decide +kernel
  exact hL _ (zRm_mem (hd o (zH0_lt h.2) h.2))
theorem zsa_4_1 {o : Nat} (h : zOb 4 o) : zAr (o + 5) 16 := by
  have hd : ∀ o < 162, zH0[o]? = some (7, 6) → o + 5 < 1000000 ∧ zH0[o + 5]? = some (0, 16) := by decide +kernel
  exact hd o (zH0_lt h.2) h.2
theorem zr_4_2 {q : ZQ} (hL : zLay q) {o : Nat} (h : zOb 4 o) : q.2 o 2 = some (o + 6) := by
  have hd : ∀ o < 162, zH0[o]? = some (7, 6) → zRm o 2 (o + 6) = true := by decide +kernel
  exact hL _ (zRm_mem (hd o (zH0_lt h.2) h.2))
theorem zsa_4_2 {o : Nat} (h : zOb 4 o) : zAr (o + 6) 16 := by
  have hd : ∀ o < 162, zH0[o]? = some (7, 6) → o + 6 < 1000000 ∧ zH0[o + 6]? = some (0, 16) := by decide +kernel
  exact hd o (zH0_lt h.2) h.2
theorem zr_4_3 {q : ZQ} (hL : zLay q) {o : Nat} (h : zOb 4 o) : q.2 o 3 = some (o + 7) := by
  have hd : ∀ o < 162, zH0[o]? = some (7, 6) → zRm o 3 (o + 7) = true := by decide +kernel
  exact hL _ (zRm_mem (hd o (zH0_lt h.2) h.2))
theorem zsa_4_3 {o : Nat} (h : zOb 4 o) : zAr (o + 7) 16 := by
  have hd : ∀ o < 162, zH0[o]? = some (7, 6) → o + 7 < 1000000 ∧ zH0[o + 7]? = some (0, 16) := by decide +kernel
  exact hd o (zH0_lt h.2) h.2
theorem zr_4_4 {q : ZQ} (hL : zLay q) {o : Nat} (h : zOb 4 o) : q.2 o 4 = some (o + 8) := by
  have hd : ∀ o < 162, zH0[o]? = some (7, 6) → zRm o 4 (o + 8) = true := by decide +kernel
  exact hL _ (zRm_mem (hd o (zH0_lt h.2) h.2))
theorem zsa_4_4 {o : Nat} (h : zOb 4 o) : zAr (o + 8) 16 := by
  have hd : ∀ o < 162, zH0[o]? = some (7, 6) → o + 8 < 1000000 ∧ zH0[o + 8]? = some (0, 16) := by decide +kernel
  exact hd o (zH0_lt h.2) h.2
theorem zr_5_0 {q : ZQ} (hL : zLay q) {o : Nat} (h : zOb 5 o) : q.2 o 0 = some (o + 1) := by
  have hd : ∀ o < 162, zH0[o]? = some (8, 4) → zRm o 0 (o + 1) = true := by decide +kernel
  exact hL _ (zRm_mem (hd o (zH0_lt h.2) h.2))
theorem zsa_5_0 {o : Nat} (h : zOb 5 o) : zAr (o + 1) 400 := by
  have hd : ∀ o < 162, zH0[o]? = some (8, 4) → o + 1 < 1000000 ∧ zH0[o + 1]? = some (0, 400) := by decide +kernel
  exact hd o (zH0_lt h.2) h.2
theorem zr_5_1 {q : ZQ} (hL : zLay q) {o : Nat} (h : zOb 5 o) : q.2 o 1 = some (o + 2) := by
  have hd : ∀ o < 162, zH0[o]? = some (8, 4) → zRm o 1 (o + 2) = true := by decide +kernel
  exact hL _ (zRm_mem (hd o (zH0_lt h.2) h.2))
theorem zsa_5_1 {o : Nat} (h : zOb 5 o) : zAr (o + 2) 400 := by
  have hd : ∀ o < 162, zH0[o]? = some (8, 4) → o + 2 < 1000000 ∧ zH0[o + 2]? = some (0, 400) := by decide +kernel
  exact hd o (zH0_lt h.2) h.2
theorem zr_5_2 {q : ZQ} (hL : zLay q) {o : Nat} (h : zOb 5 o) : q.2 o 2 = some (o + 3) := by
  have hd : ∀ o < 162, zH0[o]? = some (8, 4) → zRm o 2 (o + 3) = true := by decide +kernel
  exact hL _ (zRm_mem (hd o (zH0_lt h.2) h.2))
theorem zsa_5_2 {o : Nat} (h : zOb 5 o) : zAr (o + 3) 64 := by
  have hd : ∀ o < 162, zH0[o]? = some (8, 4) → o + 3 < 1000000 ∧ zH0[o + 3]? = some (0, 64) := by decide +kernel
  exact hd o (zH0_lt h.2) h.2
theorem zr_6_0 {q : ZQ} (hL : zLay q) {o : Nat} (h : zOb 6 o) : q.2 o 0 = some (o + 1) := by
  have hd : ∀ o < 162, zH0[o]? = some (9, 10) → zRm o 0 (o + 1) = true := by decide +kernel
  exact hL _ (zRm_mem (hd o (zH0_lt h.2) h.2))
theorem zsa_6_0 {o : Nat} (h : zOb 6 o) : zAr (o + 1) 12 := by
  have hd : ∀ o < 162, zH0[o]? = some (9, 10) → o + 1 < 1000000 ∧ zH0[o + 1]? = some (0, 12) := by decide +kernel
  exact hd o (zH0_lt h.2) h.2
theorem zr_6_1 {q : ZQ} (hL : zLay q) {o : Nat} (h : zOb 6 o) : q.2 o 1 = some (o + 2) := by
  have hd : ∀ o < 162, zH0[o]? = some (9, 10) → zRm o 1 (o + 2) = true := by decide +kernel
  exact hL _ (zRm_mem (hd o (zH0_lt h.2) h.2))
theorem zsa_6_1 {o : Nat} (h : zOb 6 o) : zAr (o + 2) 12 := by
  have hd : ∀ o < 162, zH0[o]? = some (9, 10) → o + 2 < 1000000 ∧ zH0[o + 2]? = some (0, 12) := by decide +kernel
  exact hd o (zH0_lt h.2) h.2
theorem zr_6_2 {q : ZQ} (hL : zLay q) {o : Nat} (h : zOb 6 o) : q.2 o 2 = some (o + 3) := by
  have hd : ∀ o < 162, zH0[o]? = some (9, 10) → zRm o 2 (o + 3) = true := by decide +kernel
  exact hL _ (zRm_mem (hd o (zH0_lt h.2) h.2))
theorem zsa_6_2 {o : Nat} (h : zOb 6 o) : zAr (o + 3) 12 := by
  have hd : ∀ o < 162, zH0[o]? = some (9, 10) → o + 3 < 1000000 ∧ zH0[o + 3]? = some (0, 12) := by decide +kernel
  exact hd o (zH0_lt h.2) h.2
theorem zr_6_3 {q : ZQ} (hL : zLay q) {o : Nat} (h : zOb 6 o) : q.2 o 3 = some (o + 4) := by
  have hd : ∀ o < 162, zH0[o]? = some (9, 10) → zRm o 3 (o + 4) = true := by decide +kernel
  exact hL _ (zRm_mem (hd o (zH0_lt h.2) h.2))
theorem zsa_6_3 {o : Nat} (h : zOb 6 o) : zAr (o + 4) 12 := by
  have hd : ∀ o < 162, zH0[o]? = some (9, 10) → o + 4 < 1000000 ∧ zH0[o + 4]? = some (0, 12) := by decide +kernel
  exact hd o (zH0_lt h.2) h.2
theorem zr_6_4 {q : ZQ} (hL : zLay q) {o : Nat} (h : zOb 6 o) : q.2 o 4 = some (o + 5) := by
  have hd : ∀ o < 162, zH0[o]? = some (9, 10) → zRm o 4 (o + 5) = true := by decide +kernel
  exact hL _ (zRm_mem (hd o (zH0_lt h.2) h.2))
theorem zsa_6_4 {o : Nat} (h : zOb 6 o) : zAr (o + 5) 12 := by
  have hd : ∀ o < 162, zH0[o]? = some (9, 10) → o + 5 < 1000000 ∧ zH0[o + 5]? = some (0, 12) := by decide +kernel
  exact hd o (zH0_lt h.2) h.2
theorem zr_6_5 {q : ZQ} (hL : zLay q) {o : Nat} (h : zOb 6 o) : q.2 o 5 = some (o + 6) := by
  have hd : ∀ o < 162, zH0[o]? = some (9, 10) → zRm o 5 (o + 6) = true := by decide +kernel
  exact hL _ (zRm_mem (hd o (zH0_lt h.2) h.2))
theorem zsa_6_5 {o : Nat} (h : zOb 6 o) : zAr (o + 6) 12 := by
  have hd : ∀ o < 162, zH0[o]? = some (9, 10) → o + 6 < 1000000 ∧ zH0[o + 6]? = some (0, 12) := by decide +kernel
  exact hd o (zH0_lt h.2) h.2
theorem zr_6_7 {q : ZQ} (hL : zLay q) {o : Nat} (h : zOb 6 o) : q.2 o 7 = some (o + 7) := by
  have hd : ∀ o < 162, zH0[o]? = some (9, 10) → zRm o 7 (o + 7) = true := by decide +kernel
  exact hL _ (zRm_mem (hd o (zH0_lt h.2) h.2))
theorem zsa_6_7 {o : Nat} (h : zOb 6 o) : zAr (o + 7) 12 := by
  have hd : ∀ o < 162, zH0[o]? = some (9, 10) → o + 7 < 1000000 ∧ zH0[o + 7]? = some (0, 12) := by decide +kernel
  exact hd o (zH0_lt h.2) h.2
theorem zr_7_0 {q : ZQ} (hL : zLay q) {o : Nat} (h : zOb 7 o) : q.2 o 0 = some (o + 1) := by
  have hd : ∀ o < 162, zH0[o]? = some (10, 2) → zRm o 0 (o + 1) = true := by decide +kernel
  exact hL _ (zRm_mem (hd o (zH0_lt h.2) h.2))
theorem zso_7_0 {o : Nat} (h : zOb 7 o) : zOb 5 (o + 1) := by
  have hd : ∀ o < 162, zH0[o]? = some (10, 2) → o + 1 < 1000000 ∧ zH0[o + 1]? = some (8, 4) := by decide +kernel
  exact hd o (zH0_lt h.2) h.2
theorem zr_8_0 {q : ZQ} (hL : zLay q) {o : Nat} (h : zOb 8 o) : q.2 o 0 = some (o + 1) := by
  have hd : ∀ o < 162, zH0[o]? = some (11, 3) → zRm o 0 (o + 1) = true := by decide +kernel
  exact hL _ (zRm_mem (hd o (zH0_lt h.2) h.2))
theorem zsa_8_0 {o : Nat} (h : zOb 8 o) : zAr (o + 1) 8 := by
  have hd : ∀ o < 162, zH0[o]? = some (11, 3) → o + 1 < 1000000 ∧ zH0[o + 1]? = some (0, 8) := by decide +kernel
  exact hd o (zH0_lt h.2) h.2
theorem zr_8_1 {q : ZQ} (hL : zLay q) {o : Nat} (h : zOb 8 o) : q.2 o 1 = some (o + 2) := by
  have hd : ∀ o < 162, zH0[o]? = some (11, 3) → zRm o 1 (o + 2) = true := by decide +kernel
  exact hL _ (zRm_mem (hd o (zH0_lt h.2) h.2))
theorem zsa_8_1 {o : Nat} (h : zOb 8 o) : zAr (o + 2) 8 := by
  have hd : ∀ o < 162, zH0[o]? = some (11, 3) → o + 2 < 1000000 ∧ zH0[o + 2]? = some (0, 8) := by decide +kernel
  exact hd o (zH0_lt h.2) h.2
theorem zr_9_0 {q : ZQ} (hL : zLay q) {o : Nat} (h : zOb 9 o) : q.2 o 0 = some (o + 1) := by
  have hd : ∀ o < 162, zH0[o]? = some (12, 16) → zRm o 0 (o + 1) = true := by decide +kernel
  exact hL _ (zRm_mem (hd o (zH0_lt h.2) h.2))
theorem zsa_9_0 {o : Nat} (h : zOb 9 o) : zAr (o + 1) 400 := by
  have hd : ∀ o < 162, zH0[o]? = some (12, 16) → o + 1 < 1000000 ∧ zH0[o + 1]? = some (0, 400) := by decide +kernel
  exact hd o (zH0_lt h.2) h.2
theorem zr_9_2 {q : ZQ} (hL : zLay q) {o : Nat} (h : zOb 9 o) : q.2 o 2 = some (o + 2) := by
  have hd : ∀ o < 162, zH0[o]? = some (12, 16) → zRm o 2 (o + 2) = true := by decide +kernel
  exact hL _ (zRm_mem (hd o (zH0_lt h.2) h.2))
theorem zsa_9_2 {o : Nat} (h : zOb 9 o) : zAr (o + 2) 401 := by
  have hd : ∀ o < 162, zH0[o]? = some (12, 16) → o + 2 < 1000000 ∧ zH0[o + 2]? = some (0, 401) := by decide +kernel
  exact hd o (zH0_lt h.2) h.2
theorem zr_9_3 {q : ZQ} (hL : zLay q) {o : Nat} (h : zOb 9 o) : q.2 o 3 = some (o + 3) := by
  have hd : ∀ o < 162, zH0[o]? = some (12, 16) → zRm o 3 (o + 3) = true := by decide +kernel
  exact hL _ (zRm_mem (hd o (zH0_lt h.2) h.2))
theorem zsa_9_3 {o : Nat} (h : zOb 9 o) : zAr (o + 3) 401 := by
  have hd : ∀ o < 162, zH0[o]? = some (12, 16) → o + 3 < 1000000 ∧ zH0[o + 3]? = some (0, 401) := by decide +kernel
  exact hd o (zH0_lt h.2) h.2
theorem zr_9_4 {q : ZQ} (hL : zLay q) {o : Nat} (h : zOb 9 o) : q.2 o 4 = some (o + 4) := by
  have hd : ∀ o < 162, zH0[o]? = some (12, 16) → zRm o 4 (o + 4) = true := by decide +kernel
  exact hL _ (zRm_mem (hd o (zH0_lt h.2) h.2))
theorem zsa_9_4 {o : Nat} (h : zOb 9 o) : zAr (o + 4) 401 := by
  have hd : ∀ o < 162, zH0[o]? = some (12, 16) → o + 4 < 1000000 ∧ zH0[o + 4]? = some (0, 401) := by decide +kernel
  exact hd o (zH0_lt h.2) h.2
theorem zr_9_12 {q : ZQ} (hL : zLay q) {o : Nat} (h : zOb 9 o) : q.2 o 12 = some (o + 5) := by
  have hd : ∀ o < 162, zH0[o]? = some (12, 16) → zRm o 12 (o + 5) = true := by decide +kernel
  exact hL _ (zRm_mem (hd o (zH0_lt h.2) h.2))
theorem zso_9_12 {o : Nat} (h : zOb 9 o) : zOb 4 (o + 5) := by
  have hd : ∀ o < 162, zH0[o]? = some (12, 16) → o + 5 < 1000000 ∧ zH0[o + 5]? = some (7, 6) := by decide +kernel
  exact hd o (zH0_lt h.2) h.2
theorem zr_9_13 {q : ZQ} (hL : zLay q) {o : Nat} (h : zOb 9 o) : q.2 o 13 = some (o + 14) := by
  have hd : ∀ o < 162, zH0[o]? = some (12, 16) → zRm o 13 (o + 14) = true := by decide +kernel
  exact hL _ (zRm_mem (hd o (zH0_lt h.2) h.2))
theorem zsa_9_13 {o : Nat} (h : zOb 9 o) : zAr (o + 14) 10 := by
  have hd : ∀ o < 162, zH0[o]? = some (12, 16) → o + 14 < 1000000 ∧ zH0[o + 14]? = some (0, 10) := by decide +kernel
  exact hd o (zH0_lt h.2) h.2
theorem zr_9_14 {q : ZQ} (hL : zLay q) {o : Nat} (h : zOb 9 o) : q.2 o 14 = some (o + 15) := by
  have hd : ∀ o < 162, zH0[o]? = some (12, 16) → zRm o 14 (o + 15) = true := by decide +kernel
  exact hL _ (zRm_mem (hd o (zH0_lt h.2) h.2))
theorem zso_9_14 {o : Nat} (h : zOb 9 o) : zOb 6 (o + 15) := by
  have hd : ∀ o < 162, zH0[o]? = some (12, 16) → o + 15 < 1000000 ∧ zH0[o + 15]? = some (9, 10) := by decide +kernel
  exact hd o (zH0_lt h.2) h.2
theorem zr_9_15 {q : ZQ} (hL : zLay q) {o : Nat} (h : zOb 9 o) : q.2 o 15 = some (o + 23) := by
  have hd : ∀ o < 162, zH0[o]? = some (12, 16) → zRm o 15 (o + 23) = true := by decide +kernel
  exact hL _ (zRm_mem (hd o (zH0_lt h.2) h.2))
theorem zso_9_15 {o : Nat} (h : zOb 9 o) : zOb 7 (o + 23) := by
  have hd : ∀ o < 162, zH0[o]? = some (12, 16) → o + 23 < 1000000 ∧ zH0[o + 23]? = some (10, 2) := by decide +kernel
  exact hd o (zH0_lt h.2) h.2
theorem zr_10_0 {q : ZQ} (hL : zLay q) {o : Nat} (h : zOb 10 o) : q.2 o 0 = some (o + 1) := by
  have hd : ∀ o < 162, zH0[o]? = some (13, 32) → zRm o 0 (o + 1) = true := by decide +kernel
  exact hL _ (zRm_mem (hd o (zH0_lt h.2) h.2))
theorem zr_10_1 {q : ZQ} (hL : zLay q) {o : Nat} (h : zOb 10 o) : q.2 o 1 = some (o + 2) := by
  have hd : ∀ o < 162, zH0[o]? = some (13, 32) → zRm o 1 (o + 2) = true := by decide +kernel
  exact hL _ (zRm_mem (hd o (zH0_lt h.2) h.2))
theorem zr_10_2 {q : ZQ} (hL : zLay q) {o : Nat} (h : zOb 10 o) : q.2 o 2 = some (o + 3) := by
  have hd : ∀ o < 162, zH0[o]? = some (13, 32) → zRm o 2 (o + 3) = true := by decide +kernel
  exact hL _ (zRm_mem (hd o (zH0_lt h.2) h.2))
theorem zr_10_3 {q : ZQ} (hL : zLay q) {o : Nat} (h : zOb 10 o) : q.2 o 3 = some (o + 4) := by
  have hd : ∀ o < 162, zH0[o]? = some (13, 32) → zRm o 3 (o + 4) = true := by decide +kernel
  exact hL _ (zRm_mem (hd o (zH0_lt h.2) h.2))
theorem zr_10_6 {q : ZQ} (hL : zLay q) {o : Nat} (h : zOb 10 o) : q.2 o 6 = some (o + 5) := by
  have hd : ∀ o < 162, zH0[o]? = some (13, 32) → zRm o 6 (o + 5) = true := by decide +kernel
  exact hL _ (zRm_mem (hd o (zH0_lt h.2) h.2))
theorem zr_10_7 {q : ZQ} (hL : zLay q) {o : Nat} (h : zOb 10 o) : q.2 o 7 = some (o + 6) := by
  have hd : ∀ o < 162, zH0[o]? = some (13, 32) → zRm o 7 (o + 6) = true := by decide +kernel
  exact hL _ (zRm_mem (hd o (zH0_lt h.2) h.2))
theorem zr_10_8 {q : ZQ} (hL : zLay q) {o : Nat} (h : zOb 10 o) : q.2 o 8 = some (o + 7) := by
  have hd : ∀ o < 162, zH0[o]? = some (13, 32) → zRm o 8 (o + 7) = true := by decide +kernel
  exact hL _ (zRm_mem (hd o (zH0_lt h.2) h.2))
theorem zr_10_9 {q : ZQ} (hL : zLay q) {o : Nat} (h : zOb 10 o) : q.2 o 9 = some (o + 8) := by
  have hd : ∀ o < 162, zH0[o]? = some (13, 32) → zRm o 9 (o + 8) = true := by decide +kernel
  exact hL _ (zRm_mem (hd o (zH0_lt h.2) h.2))
theorem zr_10_10 {q : ZQ} (hL : zLay q) {o : Nat} (h : zOb 10 o) : q.2 o 10 = some (o + 9) := by
  have hd : ∀ o < 162, zH0[o]? = some (13, 32) → zRm o 10 (o + 9) = true := by decide +kernel
  exact hL _ (zRm_mem (hd o (zH0_lt h.2) h.2))
theorem zr_10_11 {q : ZQ} (hL : zLay q) {o : Nat} (h : zOb 10 o) : q.2 o 11 = some (o + 10) := by
  have hd : ∀ o < 162, zH0[o]? = some (13, 32) → zRm o 11 (o + 10) = true := by decide +kernel
  exact hL _ (zRm_mem (hd o (zH0_lt h.2) h.2))
theorem zr_10_12 {q : ZQ} (hL : zLay q) {o : Nat} (h : zOb 10 o) : q.2 o 12 = some (o + 11) := by
  have hd : ∀ o < 162, zH0[o]? = some (13, 32) → zRm o 12 (o + 11) = true := by decide +kernel
  exact hL _ (zRm_mem (hd o (zH0_lt h.2) h.2))
theorem zr_10_13 {q : ZQ} (hL : zLay q) {o : Nat} (h : zOb 10 o) : q.2 o 13 = some (o + 12) := by
  have hd : ∀ o < 162, zH0[o]? = some (13, 32) → zRm o 13 (o + 12) = true := by decide +kernel
  exact hL _ (zRm_mem (hd o (zH0_lt h.2) h.2))
theorem zr_10_31 {q : ZQ} (hL : zLay q) {o : Nat} (h : zOb 10 o) : q.2 o 31 = some (o + 13) := by
  have hd : ∀ o < 162, zH0[o]? = some (13, 32) → zRm o 31 (o + 13) = true := by decide +kernel
  exact hL _ (zRm_mem (hd o (zH0_lt h.2) h.2))
theorem ow_0 : zown 0 = 0 := rfl
theorem ow_1 : zown 1 = 1 := rfl
theorem ow_2 : zown 2 = 2 := rfl
theorem ow_3 : zown 3 = 3 := rfl
theorem ow_4 : zown 4 = 4 := rfl
theorem ow_5 : zown 5 = 5 := rfl
theorem ow_6 : zown 6 = 6 := rfl
theorem ow_7 : zown 7 = 7 := rfl
theorem ow_8 : zown 8 = 8 := rfl
theorem ow_9 : zown 9 = 9 := rfl
theorem ow_10 : zown 10 = 0 := rfl
theorem rt_10 : zret 10 = some .int := rfl
theorem kk_10 : 10 < 267 ∧ zkind 10 = 1 ∧ znar 10 = 1 ∧ zml 10 = 3 := ⟨by decide, rfl, rfl, rfl⟩
theorem ow_11 : zown 11 = 0 := rfl
theorem rt_11 : zret 11 = none := rfl
theorem kk_11 : 11 < 267 ∧ zkind 11 = 1 ∧ znar 11 = 0 ∧ zml 11 = 1 := ⟨by decide, rfl, rfl, rfl⟩
theorem ow_12 : zown 12 = 0 := rfl
theorem rt_12 : zret 12 = some .int := rfl
theorem kk_12 : 12 < 267 ∧ zkind 12 = 1 ∧ znar 12 = 2 ∧ zml 12 = 3 := ⟨by decide, rfl, rfl, rfl⟩
theorem ow_13 : zown 13 = 0 := rfl
theorem rt_13 : zret 13 = some .boolean := rfl
theorem kk_13 : 13 < 267 ∧ zkind 13 = 0 ∧ znar 13 = 3 ∧ zml 13 = 3 := ⟨by decide, rfl, rfl, rfl⟩
theorem ow_14 : zown 14 = 1 := rfl
theorem rt_14 : zret 14 = some .int := rfl
theorem kk_14 : 14 < 267 ∧ zkind 14 = 1 ∧ znar 14 = 2 ∧ zml 14 = 4 := ⟨by decide, rfl, rfl, rfl⟩
theorem ow_15 : zown 15 = 0 := rfl
theorem rt_15 : zret 15 = some .boolean := rfl
theorem kk_15 : 15 < 267 ∧ zkind 15 = 1 ∧ znar 15 = 3 ∧ zml 15 = 4 := ⟨by decide, rfl, rfl, rfl⟩
theorem ow_16 : zown 16 = 0 := rfl
theorem rt_16 : zret 16 = some .boolean := rfl
theorem kk_16 : 16 < 267 ∧ zkind 16 = 1 ∧ znar 16 = 3 ∧ zml 16 = 4 := ⟨by decide, rfl, rfl, rfl⟩
theorem ow_17 : zown 17 = 1 := rfl
theorem rt_17 : zret 17 = some .boolean := rfl
theorem kk_17 : 17 < 267 ∧ zkind 17 = 1 ∧ znar 17 = 1 ∧ zml 17 = 2 := ⟨by decide, rfl, rfl, rfl⟩
theorem ow_18 : zown 18 = 0 := rfl
theorem rt_18 : zret 18 = some .boolean := rfl
theorem kk_18 : 18 < 267 ∧ zkind 18 = 1 ∧ znar 18 = 3 ∧ zml 18 = 4 := ⟨by decide, rfl, rfl, rfl⟩
theorem ow_19 : zown 19 = 0 := rfl
theorem rt_19 : zret 19 = some .boolean := rfl
theorem kk_19 : 19 < 267 ∧ zkind 19 = 0 ∧ znar 19 = 2 ∧ zml 19 = 2 := ⟨by decide, rfl, rfl, rfl⟩
theorem ow_20 : zown 20 = 0 := rfl
theorem rt_20 : zret 20 = none := rfl
theorem kk_20 : 20 < 267 ∧ zkind 20 = 1 ∧ znar 20 = 0 ∧ zml 20 = 2 := ⟨by decide, rfl, rfl, rfl⟩
theorem ow_21 : zown 21 = 2 := rfl
theorem rt_21 : zret 21 = none := rfl
theorem kk_21 : 21 < 267 ∧ zkind 21 = 1 ∧ znar 21 = 1 ∧ zml 21 = 2 := ⟨by decide, rfl, rfl, rfl⟩
theorem ow_22 : zown 22 = 0 := rfl
theorem rt_22 : zret 22 = some .int := rfl
theorem kk_22 : 22 < 267 ∧ zkind 22 = 1 ∧ znar 22 = 1 ∧ zml 22 = 2 := ⟨by decide, rfl, rfl, rfl⟩
theorem ow_23 : zown 23 = 2 := rfl
theorem rt_23 : zret 23 = none := rfl
theorem kk_23 : 23 < 267 ∧ zkind 23 = 1 ∧ znar 23 = 1 ∧ zml 23 = 2 := ⟨by decide, rfl, rfl, rfl⟩
theorem ow_24 : zown 24 = 0 := rfl
theorem rt_24 : zret 24 = some .int := rfl
theorem kk_24 : 24 < 267 ∧ zkind 24 = 1 ∧ znar 24 = 1 ∧ zml 24 = 4 := ⟨by decide, rfl, rfl, rfl⟩
theorem ow_25 : zown 25 = 1 := rfl
theorem rt_25 : zret 25 = some .int := rfl
theorem kk_25 : 25 < 267 ∧ zkind 25 = 1 ∧ znar 25 = 2 ∧ zml 25 = 4 := ⟨by decide, rfl, rfl, rfl⟩
theorem ow_26 : zown 26 = 1 := rfl
theorem rt_26 : zret 26 = none := rfl
theorem kk_26 : 26 < 267 ∧ zkind 26 = 1 ∧ znar 26 = 1 ∧ zml 26 = 3 := ⟨by decide, rfl, rfl, rfl⟩
theorem ow_27 : zown 27 = 1 := rfl
theorem rt_27 : zret 27 = some .int := rfl
theorem kk_27 : 27 < 267 ∧ zkind 27 = 1 ∧ znar 27 = 4 ∧ zml 27 = 5 := ⟨by decide, rfl, rfl, rfl⟩
theorem ow_28 : zown 28 = 12 := rfl
theorem rt_28 : zret 28 = some .int := rfl
theorem kk_28 : 28 < 267 ∧ zkind 28 = 0 ∧ znar 28 = 1 ∧ zml 28 = 1 := ⟨by decide, rfl, rfl, rfl⟩
theorem ow_29 : zown 29 = 4 := rfl
theorem rt_29 : zret 29 = some .int := rfl
theorem kk_29 : 29 < 267 ∧ zkind 29 = 1 ∧ znar 29 = 2 ∧ zml 29 = 5 := ⟨by decide, rfl, rfl, rfl⟩
theorem ow_30 : zown 30 = 5 := rfl
theorem rt_30 : zret 30 = some .int := rfl
theorem kk_30 : 30 < 267 ∧ zkind 30 = 1 ∧ znar 30 = 4 ∧ zml 30 = 8 := ⟨by decide, rfl, rfl, rfl⟩
theorem ow_31 : zown 31 = 5 := rfl
theorem rt_31 : zret 31 = some .boolean := rfl
theorem kk_31 : 31 < 267 ∧ zkind 31 = 0 ∧ znar 31 = 1 ∧ zml 31 = 1 := ⟨by decide, rfl, rfl, rfl⟩
theorem ow_32 : zown 32 = 5 := rfl
theorem rt_32 : zret 32 = some .int := rfl
theorem kk_32 : 32 < 267 ∧ zkind 32 = 0 ∧ znar 32 = 4 ∧ zml 32 = 4 := ⟨by decide, rfl, rfl, rfl⟩
theorem ow_33 : zown 33 = 5 := rfl
theorem rt_33 : zret 33 = some .int := rfl
theorem kk_33 : 33 < 267 ∧ zkind 33 = 0 ∧ znar 33 = 3 ∧ zml 33 = 3 := ⟨by decide, rfl, rfl, rfl⟩
theorem ow_34 : zown 34 = 5 := rfl
theorem rt_34 : zret 34 = some .int := rfl
theorem kk_34 : 34 < 267 ∧ zkind 34 = 0 ∧ znar 34 = 3 ∧ zml 34 = 3 := ⟨by decide, rfl, rfl, rfl⟩
theorem ow_35 : zown 35 = 0 := rfl
theorem rt_35 : zret 35 = some .int := rfl
theorem kk_35 : 35 < 267 ∧ zkind 35 = 0 ∧ znar 35 = 3 ∧ zml 35 = 3 := ⟨by decide, rfl, rfl, rfl⟩
theorem ow_36 : zown 36 = 1 := rfl
theorem rt_36 : zret 36 = some .int := rfl
theorem kk_36 : 36 < 267 ∧ zkind 36 = 1 ∧ znar 36 = 2 ∧ zml 36 = 9 := ⟨by decide, rfl, rfl, rfl⟩
theorem ow_37 : zown 37 = 7 := rfl
theorem rt_37 : zret 37 = some .boolean := rfl
theorem kk_37 : 37 < 267 ∧ zkind 37 = 1 ∧ znar 37 = 1 ∧ zml 37 = 2 := ⟨by decide, rfl, rfl, rfl⟩
theorem ow_38 : zown 38 = 1 := rfl
theorem rt_38 : zret 38 = none := rfl
theorem kk_38 : 38 < 267 ∧ zkind 38 = 1 ∧ znar 38 = 3 ∧ zml 38 = 9 := ⟨by decide, rfl, rfl, rfl⟩
theorem ow_39 : zown 39 = 2 := rfl
theorem rt_39 : zret 39 = some .int := rfl
theorem kk_39 : 39 < 267 ∧ zkind 39 = 1 ∧ znar 39 = 0 ∧ zml 39 = 1 := ⟨by decide, rfl, rfl, rfl⟩
theorem ow_40 : zown 40 = 6 := rfl
theorem rt_40 : zret 40 = some .int := rfl
theorem kk_40 : 40 < 267 ∧ zkind 40 = 1 ∧ znar 40 = 3 ∧ zml 40 = 12 := ⟨by decide, rfl, rfl, rfl⟩
theorem ow_41 : zown 41 = 6 := rfl
theorem rt_41 : zret 41 = some .int := rfl
theorem kk_41 : 41 < 267 ∧ zkind 41 = 1 ∧ znar 41 = 2 ∧ zml 41 = 5 := ⟨by decide, rfl, rfl, rfl⟩
theorem ow_42 : zown 42 = 6 := rfl
theorem rt_42 : zret 42 = some .int := rfl
theorem kk_42 : 42 < 267 ∧ zkind 42 = 1 ∧ znar 42 = 2 ∧ zml 42 = 5 := ⟨by decide, rfl, rfl, rfl⟩
theorem ow_43 : zown 43 = 6 := rfl
theorem rt_43 : zret 43 = some .boolean := rfl
theorem kk_43 : 43 < 267 ∧ zkind 43 = 1 ∧ znar 43 = 2 ∧ zml 43 = 4 := ⟨by decide, rfl, rfl, rfl⟩
theorem ow_44 : zown 44 = 2 := rfl
theorem rt_44 : zret 44 = some .int := rfl
theorem kk_44 : 44 < 267 ∧ zkind 44 = 1 ∧ znar 44 = 1 ∧ zml 44 = 2 := ⟨by decide, rfl, rfl, rfl⟩
theorem ow_45 : zown 45 = 1 := rfl
theorem rt_45 : zret 45 = none := rfl
theorem kk_45 : 45 < 267 ∧ zkind 45 = 1 ∧ znar 45 = 4 ∧ zml 45 = 6 := ⟨by decide, rfl, rfl, rfl⟩
theorem ow_46 : zown 46 = 3 := rfl
theorem rt_46 : zret 46 = none := rfl
theorem kk_46 : 46 < 267 ∧ zkind 46 = 1 ∧ znar 46 = 4 ∧ zml 46 = 6 := ⟨by decide, rfl, rfl, rfl⟩
theorem ow_47 : zown 47 = 2 := rfl
theorem rt_47 : zret 47 = none := rfl
theorem kk_47 : 47 < 267 ∧ zkind 47 = 1 ∧ znar 47 = 2 ∧ zml 47 = 4 := ⟨by decide, rfl, rfl, rfl⟩
theorem ow_48 : zown 48 = 0 := rfl
theorem rt_48 : zret 48 = some .int := rfl
theorem kk_48 : 48 < 267 ∧ zkind 48 = 1 ∧ znar 48 = 5 ∧ zml 48 = 6 := ⟨by decide, rfl, rfl, rfl⟩
theorem ow_49 : zown 49 = 9 := rfl
theorem rt_49 : zret 49 = some .boolean := rfl
theorem kk_49 : 49 < 267 ∧ zkind 49 = 1 ∧ znar 49 = 1 ∧ zml 49 = 2 := ⟨by decide, rfl, rfl, rfl⟩
theorem ow_50 : zown 50 = 9 := rfl
theorem rt_50 : zret 50 = none := rfl
theorem kk_50 : 50 < 267 ∧ zkind 50 = 1 ∧ znar 50 = 1 ∧ zml 50 = 3 := ⟨by decide, rfl, rfl, rfl⟩
theorem ow_51 : zown 51 = 0 := rfl
theorem rt_51 : zret 51 = some .boolean := rfl
theorem kk_51 : 51 < 267 ∧ zkind 51 = 1 ∧ znar 51 = 1 ∧ zml 51 = 2 := ⟨by decide, rfl, rfl, rfl⟩
theorem ow_52 : zown 52 = 0 := rfl
theorem rt_52 : zret 52 = some .int := rfl
theorem kk_52 : 52 < 267 ∧ zkind 52 = 1 ∧ znar 52 = 1 ∧ zml 52 = 2 := ⟨by decide, rfl, rfl, rfl⟩
theorem ow_53 : zown 53 = 9 := rfl
theorem rt_53 : zret 53 = none := rfl
theorem kk_53 : 53 < 267 ∧ zkind 53 = 1 ∧ znar 53 = 1 ∧ zml 53 = 2 := ⟨by decide, rfl, rfl, rfl⟩
theorem ow_54 : zown 54 = 9 := rfl
theorem rt_54 : zret 54 = none := rfl
theorem kk_54 : 54 < 267 ∧ zkind 54 = 1 ∧ znar 54 = 0 ∧ zml 54 = 4 := ⟨by decide, rfl, rfl, rfl⟩
theorem ow_55 : zown 55 = 9 := rfl
theorem rt_55 : zret 55 = some .boolean := rfl
theorem kk_55 : 55 < 267 ∧ zkind 55 = 0 ∧ znar 55 = 1 ∧ zml 55 = 1 := ⟨by decide, rfl, rfl, rfl⟩
theorem ow_56 : zown 56 = 9 := rfl
theorem rt_56 : zret 56 = some .int := rfl
theorem kk_56 : 56 < 267 ∧ zkind 56 = 1 ∧ znar 56 = 2 ∧ zml 56 = 8 := ⟨by decide, rfl, rfl, rfl⟩
theorem ow_57 : zown 57 = 13 := rfl
theorem rt_57 : zret 57 = some .int := rfl
theorem kk_57 : 57 < 267 ∧ zkind 57 = 1 ∧ znar 57 = 0 ∧ zml 57 = 1 := ⟨by decide, rfl, rfl, rfl⟩
theorem ow_58 : zown 58 = 13 := rfl
theorem rt_58 : zret 58 = some .byte := rfl
theorem kk_58 : 58 < 267 ∧ zkind 58 = 1 ∧ znar 58 = 0 ∧ zml 58 = 1 := ⟨by decide, rfl, rfl, rfl⟩
theorem ow_59 : zown 59 = 13 := rfl
theorem rt_59 : zret 59 = some .char := rfl
theorem kk_59 : 59 < 267 ∧ zkind 59 = 1 ∧ znar 59 = 1 ∧ zml 59 = 2 := ⟨by decide, rfl, rfl, rfl⟩
theorem ow_60 : zown 60 = 13 := rfl
theorem rt_60 : zret 60 = some .boolean := rfl
theorem kk_60 : 60 < 267 ∧ zkind 60 = 1 ∧ znar 60 = 0 ∧ zml 60 = 1 := ⟨by decide, rfl, rfl, rfl⟩
theorem ow_61 : zown 61 = 14 := rfl
theorem rt_61 : zret 61 = some .char := rfl
theorem kk_61 : 61 < 267 ∧ zkind 61 = 0 ∧ znar 61 = 2 ∧ zml 61 = 2 := ⟨by decide, rfl, rfl, rfl⟩
theorem ow_62 : zown 62 = 13 := rfl
theorem rt_62 : zret 62 = none := rfl
theorem kk_62 : 62 < 267 ∧ zkind 62 = 0 ∧ znar 62 = 2 ∧ zml 62 = 2 := ⟨by decide, rfl, rfl, rfl⟩
theorem ow_63 : zown 63 = 15 := rfl
theorem rt_63 : zret 63 = some .int := rfl
theorem kk_63 : 63 < 267 ∧ zkind 63 = 0 ∧ znar 63 = 3 ∧ zml 63 = 3 := ⟨by decide, rfl, rfl, rfl⟩
theorem ow_64 : zown 64 = 9 := rfl
theorem rt_64 : zret 64 = none := rfl
theorem kk_64 : 64 < 267 ∧ zkind 64 = 1 ∧ znar 64 = 3 ∧ zml 64 = 4 := ⟨by decide, rfl, rfl, rfl⟩
theorem ow_65 : zown 65 = 9 := rfl
theorem rt_65 : zret 65 = some .boolean := rfl
theorem kk_65 : 65 < 267 ∧ zkind 65 = 0 ∧ znar 65 = 1 ∧ zml 65 = 1 := ⟨by decide, rfl, rfl, rfl⟩
theorem ow_66 : zown 66 = 9 := rfl
theorem rt_66 : zret 66 = some .int := rfl
theorem kk_66 : 66 < 267 ∧ zkind 66 = 1 ∧ znar 66 = 2 ∧ zml 66 = 5 := ⟨by decide, rfl, rfl, rfl⟩
theorem ow_67 : zown 67 = 9 := rfl
theorem rt_67 : zret 67 = some .int := rfl
theorem kk_67 : 67 < 267 ∧ zkind 67 = 0 ∧ znar 67 = 1 ∧ zml 67 = 1 := ⟨by decide, rfl, rfl, rfl⟩
theorem ow_68 : zown 68 = 9 := rfl
theorem rt_68 : zret 68 = none := rfl
theorem kk_68 : 68 < 267 ∧ zkind 68 = 1 ∧ znar 68 = 0 ∧ zml 68 = 1 := ⟨by decide, rfl, rfl, rfl⟩
theorem ow_69 : zown 69 = 9 := rfl
theorem rt_69 : zret 69 = some .boolean := rfl
theorem kk_69 : 69 < 267 ∧ zkind 69 = 1 ∧ znar 69 = 0 ∧ zml 69 = 5 := ⟨by decide, rfl, rfl, rfl⟩
theorem ow_70 : zown 70 = 9 := rfl
theorem rt_70 : zret 70 = some .boolean := rfl
theorem kk_70 : 70 < 267 ∧ zkind 70 = 1 ∧ znar 70 = 1 ∧ zml 70 = 2 := ⟨by decide, rfl, rfl, rfl⟩
theorem ow_71 : zown 71 = 9 := rfl
theorem rt_71 : zret 71 = some .boolean := rfl
theorem kk_71 : 71 < 267 ∧ zkind 71 = 1 ∧ znar 71 = 1 ∧ zml 71 = 4 := ⟨by decide, rfl, rfl, rfl⟩
theorem ow_72 : zown 72 = 9 := rfl
theorem rt_72 : zret 72 = some .boolean := rfl
theorem kk_72 : 72 < 267 ∧ zkind 72 = 1 ∧ znar 72 = 1 ∧ zml 72 = 4 := ⟨by decide, rfl, rfl, rfl⟩
theorem ow_73 : zown 73 = 9 := rfl
theorem rt_73 : zret 73 = some .boolean := rfl
theorem kk_73 : 73 < 267 ∧ zkind 73 = 1 ∧ znar 73 = 1 ∧ zml 73 = 2 := ⟨by decide, rfl, rfl, rfl⟩
theorem ow_74 : zown 74 = 5 := rfl
theorem rt_74 : zret 74 = none := rfl
theorem kk_74 : 74 < 267 ∧ zkind 74 = 1 ∧ znar 74 = 2 ∧ zml 74 = 3 := ⟨by decide, rfl, rfl, rfl⟩
theorem ow_75 : zown 75 = 9 := rfl
theorem rt_75 : zret 75 = some .boolean := rfl
theorem kk_75 : 75 < 267 ∧ zkind 75 = 1 ∧ znar 75 = 2 ∧ zml 75 = 3 := ⟨by decide, rfl, rfl, rfl⟩
theorem ow_76 : zown 76 = 9 := rfl
theorem rt_76 : zret 76 = some .boolean := rfl
theorem kk_76 : 76 < 267 ∧ zkind 76 = 1 ∧ znar 76 = 3 ∧ zml 76 = 7 := ⟨by decide, rfl, rfl, rfl⟩
theorem ow_77 : zown 77 = 9 := rfl
theorem rt_77 : zret 77 = some .boolean := rfl
theorem kk_77 : 77 < 267 ∧ zkind 77 = 1 ∧ znar 77 = 3 ∧ zml 77 = 5 := ⟨by decide, rfl, rfl, rfl⟩
theorem ow_78 : zown 78 = 9 := rfl
theorem rt_78 : zret 78 = some .boolean := rfl
theorem kk_78 : 78 < 267 ∧ zkind 78 = 1 ∧ znar 78 = 1 ∧ zml 78 = 2 := ⟨by decide, rfl, rfl, rfl⟩
theorem ow_79 : zown 79 = 9 := rfl
theorem rt_79 : zret 79 = some .boolean := rfl
theorem kk_79 : 79 < 267 ∧ zkind 79 = 1 ∧ znar 79 = 1 ∧ zml 79 = 3 := ⟨by decide, rfl, rfl, rfl⟩
theorem ow_80 : zown 80 = 4 := rfl
theorem rt_80 : zret 80 = none := rfl
theorem kk_80 : 80 < 267 ∧ zkind 80 = 1 ∧ znar 80 = 3 ∧ zml 80 = 4 := ⟨by decide, rfl, rfl, rfl⟩
theorem ow_81 : zown 81 = 4 := rfl
theorem rt_81 : zret 81 = none := rfl
theorem kk_81 : 81 < 267 ∧ zkind 81 = 1 ∧ znar 81 = 1 ∧ zml 81 = 2 := ⟨by decide, rfl, rfl, rfl⟩
theorem ow_82 : zown 82 = 5 := rfl
theorem rt_82 : zret 82 = none := rfl
theorem kk_82 : 82 < 267 ∧ zkind 82 = 1 ∧ znar 82 = 1 ∧ zml 82 = 2 := ⟨by decide, rfl, rfl, rfl⟩
theorem ow_83 : zown 83 = 9 := rfl
theorem rt_83 : zret 83 = some .boolean := rfl
theorem kk_83 : 83 < 267 ∧ zkind 83 = 1 ∧ znar 83 = 0 ∧ zml 83 = 3 := ⟨by decide, rfl, rfl, rfl⟩
theorem ow_84 : zown 84 = 1 := rfl
theorem rt_84 : zret 84 = some .int := rfl
theorem kk_84 : 84 < 267 ∧ zkind 84 = 1 ∧ znar 84 = 0 ∧ zml 84 = 3 := ⟨by decide, rfl, rfl, rfl⟩
theorem ow_85 : zown 85 = 9 := rfl
theorem rt_85 : zret 85 = some .boolean := rfl
theorem kk_85 : 85 < 267 ∧ zkind 85 = 1 ∧ znar 85 = 0 ∧ zml 85 = 3 := ⟨by decide, rfl, rfl, rfl⟩
theorem ow_86 : zown 86 = 9 := rfl
theorem rt_86 : zret 86 = some .boolean := rfl
theorem kk_86 : 86 < 267 ∧ zkind 86 = 1 ∧ znar 86 = 4 ∧ zml 86 = 5 := ⟨by decide, rfl, rfl, rfl⟩
theorem ow_87 : zown 87 = 9 := rfl
theorem rt_87 : zret 87 = some .boolean := rfl
theorem kk_87 : 87 < 267 ∧ zkind 87 = 1 ∧ znar 87 = 0 ∧ zml 87 = 2 := ⟨by decide, rfl, rfl, rfl⟩
theorem ow_88 : zown 88 = 6 := rfl
theorem rt_88 : zret 88 = none := rfl
theorem kk_88 : 88 < 267 ∧ zkind 88 = 1 ∧ znar 88 = 1 ∧ zml 88 = 2 := ⟨by decide, rfl, rfl, rfl⟩
theorem ow_89 : zown 89 = 9 := rfl
theorem rt_89 : zret 89 = some .boolean := rfl
theorem kk_89 : 89 < 267 ∧ zkind 89 = 1 ∧ znar 89 = 0 ∧ zml 89 = 1 := ⟨by decide, rfl, rfl, rfl⟩
theorem ow_90 : zown 90 = 7 := rfl
theorem rt_90 : zret 90 = none := rfl
theorem kk_90 : 90 < 267 ∧ zkind 90 = 1 ∧ znar 90 = 1 ∧ zml 90 = 2 := ⟨by decide, rfl, rfl, rfl⟩
theorem ow_91 : zown 91 = 0 := rfl
theorem rt_91 : zret 91 = some .int := rfl
theorem kk_91 : 91 < 267 ∧ zkind 91 = 1 ∧ znar 91 = 1 ∧ zml 91 = 2 := ⟨by decide, rfl, rfl, rfl⟩
theorem ow_92 : zown 92 = 0 := rfl
theorem rt_92 : zret 92 = some .int := rfl
theorem kk_92 : 92 < 267 ∧ zkind 92 = 1 ∧ znar 92 = 2 ∧ zml 92 = 3 := ⟨by decide, rfl, rfl, rfl⟩
theorem ow_93 : zown 93 = 0 := rfl
theorem rt_93 : zret 93 = some .int := rfl
theorem kk_93 : 93 < 267 ∧ zkind 93 = 1 ∧ znar 93 = 1 ∧ zml 93 = 4 := ⟨by decide, rfl, rfl, rfl⟩
theorem ow_94 : zown 94 = 0 := rfl
theorem rt_94 : zret 94 = some .int := rfl
theorem kk_94 : 94 < 267 ∧ zkind 94 = 1 ∧ znar 94 = 3 ∧ zml 94 = 4 := ⟨by decide, rfl, rfl, rfl⟩
theorem ow_95 : zown 95 = 0 := rfl
theorem rt_95 : zret 95 = some .int := rfl
theorem kk_95 : 95 < 267 ∧ zkind 95 = 1 ∧ znar 95 = 2 ∧ zml 95 = 4 := ⟨by decide, rfl, rfl, rfl⟩
theorem ow_96 : zown 96 = 0 := rfl
theorem rt_96 : zret 96 = some .int := rfl
theorem kk_96 : 96 < 267 ∧ zkind 96 = 1 ∧ znar 96 = 2 ∧ zml 96 = 3 := ⟨by decide, rfl, rfl, rfl⟩
theorem ow_97 : zown 97 = 0 := rfl
theorem rt_97 : zret 97 = some .boolean := rfl
theorem kk_97 : 97 < 267 ∧ zkind 97 = 1 ∧ znar 97 = 1 ∧ zml 97 = 2 := ⟨by decide, rfl, rfl, rfl⟩
theorem ow_98 : zown 98 = 1 := rfl
theorem rt_98 : zret 98 = some .int := rfl
theorem kk_98 : 98 < 267 ∧ zkind 98 = 1 ∧ znar 98 = 0 ∧ zml 98 = 1 := ⟨by decide, rfl, rfl, rfl⟩
theorem ow_99 : zown 99 = 0 := rfl
theorem rt_99 : zret 99 = some .int := rfl
theorem kk_99 : 99 < 267 ∧ zkind 99 = 1 ∧ znar 99 = 3 ∧ zml 99 = 6 := ⟨by decide, rfl, rfl, rfl⟩
theorem ow_100 : zown 100 = 0 := rfl
theorem rt_100 : zret 100 = some .int := rfl
theorem kk_100 : 100 < 267 ∧ zkind 100 = 1 ∧ znar 100 = 2 ∧ zml 100 = 6 := ⟨by decide, rfl, rfl, rfl⟩
theorem ow_101 : zown 101 = 0 := rfl
theorem rt_101 : zret 101 = some .int := rfl
theorem kk_101 : 101 < 267 ∧ zkind 101 = 1 ∧ znar 101 = 1 ∧ zml 101 = 5 := ⟨by decide, rfl, rfl, rfl⟩
theorem ow_102 : zown 102 = 0 := rfl
theorem rt_102 : zret 102 = some .int := rfl
theorem kk_102 : 102 < 267 ∧ zkind 102 = 1 ∧ znar 102 = 2 ∧ zml 102 = 6 := ⟨by decide, rfl, rfl, rfl⟩
theorem ow_103 : zown 103 = 0 := rfl
theorem rt_103 : zret 103 = none := rfl
theorem kk_103 : 103 < 267 ∧ zkind 103 = 1 ∧ znar 103 = 0 ∧ zml 103 = 3 := ⟨by decide, rfl, rfl, rfl⟩
theorem ow_104 : zown 104 = 0 := rfl
theorem rt_104 : zret 104 = some .int := rfl
theorem kk_104 : 104 < 267 ∧ zkind 104 = 1 ∧ znar 104 = 1 ∧ zml 104 = 5 := ⟨by decide, rfl, rfl, rfl⟩
theorem ow_105 : zown 105 = 0 := rfl
theorem rt_105 : zret 105 = some .int := rfl
theorem kk_105 : 105 < 267 ∧ zkind 105 = 1 ∧ znar 105 = 2 ∧ zml 105 = 6 := ⟨by decide, rfl, rfl, rfl⟩
theorem ow_106 : zown 106 = 0 := rfl
theorem rt_106 : zret 106 = some .int := rfl
theorem kk_106 : 106 < 267 ∧ zkind 106 = 1 ∧ znar 106 = 3 ∧ zml 106 = 8 := ⟨by decide, rfl, rfl, rfl⟩
theorem ow_107 : zown 107 = 0 := rfl
theorem rt_107 : zret 107 = some .int := rfl
theorem kk_107 : 107 < 267 ∧ zkind 107 = 1 ∧ znar 107 = 3 ∧ zml 107 = 6 := ⟨by decide, rfl, rfl, rfl⟩
theorem ow_108 : zown 108 = 0 := rfl
theorem rt_108 : zret 108 = some .boolean := rfl
theorem kk_108 : 108 < 267 ∧ zkind 108 = 1 ∧ znar 108 = 2 ∧ zml 108 = 3 := ⟨by decide, rfl, rfl, rfl⟩
theorem ow_109 : zown 109 = 0 := rfl
theorem rt_109 : zret 109 = some .int := rfl
theorem kk_109 : 109 < 267 ∧ zkind 109 = 1 ∧ znar 109 = 2 ∧ zml 109 = 3 := ⟨by decide, rfl, rfl, rfl⟩
theorem ow_110 : zown 110 = 1 := rfl
theorem rt_110 : zret 110 = none := rfl
theorem kk_110 : 110 < 267 ∧ zkind 110 = 1 ∧ znar 110 = 1 ∧ zml 110 = 2 := ⟨by decide, rfl, rfl, rfl⟩
theorem ow_111 : zown 111 = 6 := rfl
theorem rt_111 : zret 111 = none := rfl
theorem kk_111 : 111 < 267 ∧ zkind 111 = 1 ∧ znar 111 = 4 ∧ zml 111 = 8 := ⟨by decide, rfl, rfl, rfl⟩
theorem ow_112 : zown 112 = 6 := rfl
theorem rt_112 : zret 112 = none := rfl
theorem kk_112 : 112 < 267 ∧ zkind 112 = 1 ∧ znar 112 = 1 ∧ zml 112 = 3 := ⟨by decide, rfl, rfl, rfl⟩
theorem ow_113 : zown 113 = 0 := rfl
theorem rt_113 : zret 113 = some .int := rfl
theorem kk_113 : 113 < 267 ∧ zkind 113 = 1 ∧ znar 113 = 1 ∧ zml 113 = 2 := ⟨by decide, rfl, rfl, rfl⟩
theorem ow_114 : zown 114 = 6 := rfl
theorem rt_114 : zret 114 = some .int := rfl
theorem kk_114 : 114 < 267 ∧ zkind 114 = 1 ∧ znar 114 = 1 ∧ zml 114 = 6 := ⟨by decide, rfl, rfl, rfl⟩
theorem ow_115 : zown 115 = 0 := rfl
theorem rt_115 : zret 115 = some .int := rfl
theorem kk_115 : 115 < 267 ∧ zkind 115 = 1 ∧ znar 115 = 3 ∧ zml 115 = 8 := ⟨by decide, rfl, rfl, rfl⟩
theorem ow_116 : zown 116 = 0 := rfl
theorem rt_116 : zret 116 = some .int := rfl
theorem kk_116 : 116 < 267 ∧ zkind 116 = 1 ∧ znar 116 = 2 ∧ zml 116 = 4 := ⟨by decide, rfl, rfl, rfl⟩
theorem ow_117 : zown 117 = 8 := rfl
theorem rt_117 : zret 117 = none := rfl
theorem kk_117 : 117 < 267 ∧ zkind 117 = 1 ∧ znar 117 = 2 ∧ zml 117 = 3 := ⟨by decide, rfl, rfl, rfl⟩
theorem ow_118 : zown 118 = 0 := rfl
theorem rt_118 : zret 118 = some .int := rfl
theorem kk_118 : 118 < 267 ∧ zkind 118 = 1 ∧ znar 118 = 1 ∧ zml 118 = 3 := ⟨by decide, rfl, rfl, rfl⟩
theorem ow_119 : zown 119 = 8 := rfl
theorem rt_119 : zret 119 = some .int := rfl
theorem kk_119 : 119 < 267 ∧ zkind 119 = 1 ∧ znar 119 = 0 ∧ zml 119 = 1 := ⟨by decide, rfl, rfl, rfl⟩
theorem ow_120 : zown 120 = 8 := rfl
theorem rt_120 : zret 120 = some .int := rfl
theorem kk_120 : 120 < 267 ∧ zkind 120 = 1 ∧ znar 120 = 0 ∧ zml 120 = 3 := ⟨by decide, rfl, rfl, rfl⟩
theorem ow_121 : zown 121 = 8 := rfl
theorem rt_121 : zret 121 = some .int := rfl
theorem kk_121 : 121 < 267 ∧ zkind 121 = 1 ∧ znar 121 = 0 ∧ zml 121 = 4 := ⟨by decide, rfl, rfl, rfl⟩
theorem ow_122 : zown 122 = 0 := rfl
theorem rt_122 : zret 122 = some .int := rfl
theorem kk_122 : 122 < 267 ∧ zkind 122 = 1 ∧ znar 122 = 1 ∧ zml 122 = 3 := ⟨by decide, rfl, rfl, rfl⟩
theorem ow_123 : zown 123 = 0 := rfl
theorem rt_123 : zret 123 = some .int := rfl
theorem kk_123 : 123 < 267 ∧ zkind 123 = 1 ∧ znar 123 = 4 ∧ zml 123 = 6 := ⟨by decide, rfl, rfl, rfl⟩
theorem ow_124 : zown 124 = 0 := rfl
theorem rt_124 : zret 124 = some .int := rfl
theorem kk_124 : 124 < 267 ∧ zkind 124 = 1 ∧ znar 124 = 0 ∧ zml 124 = 3 := ⟨by decide, rfl, rfl, rfl⟩
theorem ow_125 : zown 125 = 0 := rfl
theorem rt_125 : zret 125 = some .boolean := rfl
theorem kk_125 : 125 < 267 ∧ zkind 125 = 1 ∧ znar 125 = 2 ∧ zml 125 = 3 := ⟨by decide, rfl, rfl, rfl⟩
theorem ow_126 : zown 126 = 0 := rfl
theorem rt_126 : zret 126 = some .int := rfl
theorem kk_126 : 126 < 267 ∧ zkind 126 = 1 ∧ znar 126 = 1 ∧ zml 126 = 6 := ⟨by decide, rfl, rfl, rfl⟩
theorem ow_127 : zown 127 = 0 := rfl
theorem rt_127 : zret 127 = some .int := rfl
theorem kk_127 : 127 < 267 ∧ zkind 127 = 1 ∧ znar 127 = 1 ∧ zml 127 = 7 := ⟨by decide, rfl, rfl, rfl⟩
theorem ow_128 : zown 128 = 0 := rfl
theorem rt_128 : zret 128 = some .boolean := rfl
theorem kk_128 : 128 < 267 ∧ zkind 128 = 1 ∧ znar 128 = 1 ∧ zml 128 = 3 := ⟨by decide, rfl, rfl, rfl⟩
theorem ow_129 : zown 129 = 0 := rfl
theorem rt_129 : zret 129 = some .int := rfl
theorem kk_129 : 129 < 267 ∧ zkind 129 = 1 ∧ znar 129 = 0 ∧ zml 129 = 3 := ⟨by decide, rfl, rfl, rfl⟩
theorem ow_130 : zown 130 = 0 := rfl
theorem rt_130 : zret 130 = some .int := rfl
theorem kk_130 : 130 < 267 ∧ zkind 130 = 1 ∧ znar 130 = 1 ∧ zml 130 = 3 := ⟨by decide, rfl, rfl, rfl⟩
theorem ow_131 : zown 131 = 0 := rfl
theorem rt_131 : zret 131 = some .int := rfl
theorem kk_131 : 131 < 267 ∧ zkind 131 = 1 ∧ znar 131 = 1 ∧ zml 131 = 2 := ⟨by decide, rfl, rfl, rfl⟩
theorem ow_132 : zown 132 = 0 := rfl
theorem rt_132 : zret 132 = some .int := rfl
theorem kk_132 : 132 < 267 ∧ zkind 132 = 1 ∧ znar 132 = 0 ∧ zml 132 = 5 := ⟨by decide, rfl, rfl, rfl⟩
theorem ow_133 : zown 133 = 0 := rfl
theorem rt_133 : zret 133 = some .int := rfl
theorem kk_133 : 133 < 267 ∧ zkind 133 = 1 ∧ znar 133 = 0 ∧ zml 133 = 3 := ⟨by decide, rfl, rfl, rfl⟩
theorem ow_134 : zown 134 = 0 := rfl
theorem rt_134 : zret 134 = some .int := rfl
theorem kk_134 : 134 < 267 ∧ zkind 134 = 1 ∧ znar 134 = 2 ∧ zml 134 = 5 := ⟨by decide, rfl, rfl, rfl⟩
theorem ow_135 : zown 135 = 0 := rfl
theorem rt_135 : zret 135 = some .int := rfl
theorem kk_135 : 135 < 267 ∧ zkind 135 = 1 ∧ znar 135 = 1 ∧ zml 135 = 4 := ⟨by decide, rfl, rfl, rfl⟩
theorem ow_136 : zown 136 = 0 := rfl
theorem rt_136 : zret 136 = some .int := rfl
theorem kk_136 : 136 < 267 ∧ zkind 136 = 1 ∧ znar 136 = 1 ∧ zml 136 = 5 := ⟨by decide, rfl, rfl, rfl⟩
theorem ow_137 : zown 137 = 0 := rfl
theorem rt_137 : zret 137 = some .boolean := rfl
theorem kk_137 : 137 < 267 ∧ zkind 137 = 1 ∧ znar 137 = 1 ∧ zml 137 = 3 := ⟨by decide, rfl, rfl, rfl⟩
theorem ow_138 : zown 138 = 0 := rfl
theorem rt_138 : zret 138 = some .boolean := rfl
theorem kk_138 : 138 < 267 ∧ zkind 138 = 1 ∧ znar 138 = 0 ∧ zml 138 = 1 := ⟨by decide, rfl, rfl, rfl⟩
theorem ow_139 : zown 139 = 0 := rfl
theorem rt_139 : zret 139 = some .boolean := rfl
theorem kk_139 : 139 < 267 ∧ zkind 139 = 1 ∧ znar 139 = 1 ∧ zml 139 = 2 := ⟨by decide, rfl, rfl, rfl⟩
theorem ow_140 : zown 140 = 1 := rfl
theorem rt_140 : zret 140 = none := rfl
theorem kk_140 : 140 < 267 ∧ zkind 140 = 1 ∧ znar 140 = 1 ∧ zml 140 = 2 := ⟨by decide, rfl, rfl, rfl⟩
theorem ow_141 : zown 141 = 3 := rfl
theorem rt_141 : zret 141 = none := rfl
theorem kk_141 : 141 < 267 ∧ zkind 141 = 1 ∧ znar 141 = 1 ∧ zml 141 = 2 := ⟨by decide, rfl, rfl, rfl⟩
theorem ow_142 : zown 142 = 8 := rfl
theorem rt_142 : zret 142 = none := rfl
theorem kk_142 : 142 < 267 ∧ zkind 142 = 1 ∧ znar 142 = 1 ∧ zml 142 = 2 := ⟨by decide, rfl, rfl, rfl⟩
theorem ow_143 : zown 143 = 0 := rfl
theorem rt_143 : zret 143 = some .int := rfl
theorem kk_143 : 143 < 267 ∧ zkind 143 = 1 ∧ znar 143 = 1 ∧ zml 143 = 2 := ⟨by decide, rfl, rfl, rfl⟩
theorem ow_144 : zown 144 = 0 := rfl
theorem rt_144 : zret 144 = some .int := rfl
theorem kk_144 : 144 < 267 ∧ zkind 144 = 1 ∧ znar 144 = 1 ∧ zml 144 = 2 := ⟨by decide, rfl, rfl, rfl⟩
theorem ow_145 : zown 145 = 10 := rfl
theorem ow_146 : zown 146 = 10 := rfl
theorem rt_146 : zret 146 = some .int := rfl
theorem kk_146 : 146 < 267 ∧ zkind 146 = 1 ∧ znar 146 = 1 ∧ zml 146 = 3 := ⟨by decide, rfl, rfl, rfl⟩
theorem ow_147 : zown 147 = 10 := rfl
theorem rt_147 : zret 147 = none := rfl
theorem kk_147 : 147 < 267 ∧ zkind 147 = 1 ∧ znar 147 = 0 ∧ zml 147 = 1 := ⟨by decide, rfl, rfl, rfl⟩
theorem ow_148 : zown 148 = 10 := rfl
theorem rt_148 : zret 148 = some .int := rfl
theorem kk_148 : 148 < 267 ∧ zkind 148 = 1 ∧ znar 148 = 2 ∧ zml 148 = 4 := ⟨by decide, rfl, rfl, rfl⟩
theorem ow_149 : zown 149 = 10 := rfl
theorem rt_149 : zret 149 = some .boolean := rfl
theorem kk_149 : 149 < 267 ∧ zkind 149 = 0 ∧ znar 149 = 3 ∧ zml 149 = 3 := ⟨by decide, rfl, rfl, rfl⟩
theorem ow_150 : zown 150 = 10 := rfl
theorem rt_150 : zret 150 = some .boolean := rfl
theorem kk_150 : 150 < 267 ∧ zkind 150 = 1 ∧ znar 150 = 3 ∧ zml 150 = 4 := ⟨by decide, rfl, rfl, rfl⟩
theorem ow_151 : zown 151 = 10 := rfl
theorem rt_151 : zret 151 = some .boolean := rfl
theorem kk_151 : 151 < 267 ∧ zkind 151 = 1 ∧ znar 151 = 3 ∧ zml 151 = 4 := ⟨by decide, rfl, rfl, rfl⟩
theorem ow_152 : zown 152 = 10 := rfl
theorem rt_152 : zret 152 = some .boolean := rfl
theorem kk_152 : 152 < 267 ∧ zkind 152 = 1 ∧ znar 152 = 1 ∧ zml 152 = 2 := ⟨by decide, rfl, rfl, rfl⟩
theorem ow_153 : zown 153 = 10 := rfl
theorem rt_153 : zret 153 = some .int := rfl
theorem kk_153 : 153 < 267 ∧ zkind 153 = 0 ∧ znar 153 = 2 ∧ zml 153 = 2 := ⟨by decide, rfl, rfl, rfl⟩
theorem ow_154 : zown 154 = 10 := rfl
theorem rt_154 : zret 154 = some .int := rfl
theorem kk_154 : 154 < 267 ∧ zkind 154 = 1 ∧ znar 154 = 5 ∧ zml 154 = 8 := ⟨by decide, rfl, rfl, rfl⟩
theorem ow_155 : zown 155 = 10 := rfl
theorem rt_155 : zret 155 = some .boolean := rfl
theorem kk_155 : 155 < 267 ∧ zkind 155 = 1 ∧ znar 155 = 1 ∧ zml 155 = 2 := ⟨by decide, rfl, rfl, rfl⟩
theorem ow_156 : zown 156 = 10 := rfl
theorem rt_156 : zret 156 = some .int := rfl
theorem kk_156 : 156 < 267 ∧ zkind 156 = 1 ∧ znar 156 = 1 ∧ zml 156 = 3 := ⟨by decide, rfl, rfl, rfl⟩
theorem ow_157 : zown 157 = 10 := rfl
theorem rt_157 : zret 157 = none := rfl
theorem kk_157 : 157 < 267 ∧ zkind 157 = 1 ∧ znar 157 = 0 ∧ zml 157 = 3 := ⟨by decide, rfl, rfl, rfl⟩
theorem ow_158 : zown 158 = 10 := rfl
theorem rt_158 : zret 158 = some .int := rfl
theorem kk_158 : 158 < 267 ∧ zkind 158 = 1 ∧ znar 158 = 1 ∧ zml 158 = 2 := ⟨by decide, rfl, rfl, rfl⟩
theorem ow_159 : zown 159 = 10 := rfl
theorem rt_159 : zret 159 = some .boolean := rfl
theorem kk_159 : 159 < 267 ∧ zkind 159 = 0 ∧ znar 159 = 1 ∧ zml 159 = 1 := ⟨by decide, rfl, rfl, rfl⟩
theorem ow_160 : zown 160 = 10 := rfl
theorem rt_160 : zret 160 = some .int := rfl
theorem kk_160 : 160 < 267 ∧ zkind 160 = 1 ∧ znar 160 = 0 ∧ zml 160 = 1 := ⟨by decide, rfl, rfl, rfl⟩
theorem ow_161 : zown 161 = 10 := rfl
theorem rt_161 : zret 161 = some .int := rfl
theorem kk_161 : 161 < 267 ∧ zkind 161 = 1 ∧ znar 161 = 0 ∧ zml 161 = 1 := ⟨by decide, rfl, rfl, rfl⟩
theorem ow_162 : zown 162 = 10 := rfl
theorem rt_162 : zret 162 = some .boolean := rfl
theorem kk_162 : 162 < 267 ∧ zkind 162 = 1 ∧ znar 162 = 1 ∧ zml 162 = 4 := ⟨by decide, rfl, rfl, rfl⟩
theorem ow_163 : zown 163 = 10 := rfl
theorem rt_163 : zret 163 = some .int := rfl
theorem kk_163 : 163 < 267 ∧ zkind 163 = 1 ∧ znar 163 = 0 ∧ zml 163 = 1 := ⟨by decide, rfl, rfl, rfl⟩
theorem ow_164 : zown 164 = 10 := rfl
theorem rt_164 : zret 164 = some .int := rfl
theorem kk_164 : 164 < 267 ∧ zkind 164 = 1 ∧ znar 164 = 0 ∧ zml 164 = 1 := ⟨by decide, rfl, rfl, rfl⟩
theorem ow_165 : zown 165 = 10 := rfl
theorem rt_165 : zret 165 = some .int := rfl
theorem kk_165 : 165 < 267 ∧ zkind 165 = 1 ∧ znar 165 = 0 ∧ zml 165 = 1 := ⟨by decide, rfl, rfl, rfl⟩
theorem ow_166 : zown 166 = 10 := rfl
theorem rt_166 : zret 166 = some .boolean := rfl
theorem kk_166 : 166 < 267 ∧ zkind 166 = 0 ∧ znar 166 = 1 ∧ zml 166 = 1 := ⟨by decide, rfl, rfl, rfl⟩
theorem ow_167 : zown 167 = 10 := rfl
theorem rt_167 : zret 167 = some .boolean := rfl
theorem kk_167 : 167 < 267 ∧ zkind 167 = 1 ∧ znar 167 = 1 ∧ zml 167 = 2 := ⟨by decide, rfl, rfl, rfl⟩
theorem ow_168 : zown 168 = 10 := rfl
theorem rt_168 : zret 168 = some .boolean := rfl
theorem kk_168 : 168 < 267 ∧ zkind 168 = 1 ∧ znar 168 = 0 ∧ zml 168 = 2 := ⟨by decide, rfl, rfl, rfl⟩
theorem ow_169 : zown 169 = 10 := rfl
theorem rt_169 : zret 169 = some .boolean := rfl
theorem kk_169 : 169 < 267 ∧ zkind 169 = 1 ∧ znar 169 = 0 ∧ zml 169 = 1 := ⟨by decide, rfl, rfl, rfl⟩
theorem ow_170 : zown 170 = 10 := rfl
theorem rt_170 : zret 170 = some .boolean := rfl
theorem kk_170 : 170 < 267 ∧ zkind 170 = 1 ∧ znar 170 = 1 ∧ zml 170 = 2 := ⟨by decide, rfl, rfl, rfl⟩
theorem ow_171 : zown 171 = 10 := rfl
theorem rt_171 : zret 171 = some .boolean := rfl
theorem kk_171 : 171 < 267 ∧ zkind 171 = 1 ∧ znar 171 = 0 ∧ zml 171 = 2 := ⟨by decide, rfl, rfl, rfl⟩
theorem ow_172 : zown 172 = 10 := rfl
theorem rt_172 : zret 172 = some .boolean := rfl
theorem kk_172 : 172 < 267 ∧ zkind 172 = 1 ∧ znar 172 = 0 ∧ zml 172 = 3 := ⟨by decide, rfl, rfl, rfl⟩
theorem ow_173 : zown 173 = 10 := rfl
theorem rt_173 : zret 173 = some .boolean := rfl
theorem kk_173 : 173 < 267 ∧ zkind 173 = 1 ∧ znar 173 = 0 ∧ zml 173 = 2 := ⟨by decide, rfl, rfl, rfl⟩
theorem ow_174 : zown 174 = 10 := rfl
theorem rt_174 : zret 174 = none := rfl
theorem kk_174 : 174 < 267 ∧ zkind 174 = 1 ∧ znar 174 = 2 ∧ zml 174 = 3 := ⟨by decide, rfl, rfl, rfl⟩
theorem ow_175 : zown 175 = 10 := rfl
theorem rt_175 : zret 175 = some .boolean := rfl
theorem kk_175 : 175 < 267 ∧ zkind 175 = 1 ∧ znar 175 = 0 ∧ zml 175 = 1 := ⟨by decide, rfl, rfl, rfl⟩
theorem ow_176 : zown 176 = 10 := rfl
theorem rt_176 : zret 176 = some .boolean := rfl
theorem kk_176 : 176 < 267 ∧ zkind 176 = 1 ∧ znar 176 = 0 ∧ zml 176 = 1 := ⟨by decide, rfl, rfl, rfl⟩
theorem ow_177 : zown 177 = 10 := rfl
theorem rt_177 : zret 177 = some .boolean := rfl
theorem kk_177 : 177 < 267 ∧ zkind 177 = 1 ∧ znar 177 = 0 ∧ zml 177 = 2 := ⟨by decide, rfl, rfl, rfl⟩
theorem ow_178 : zown 178 = 10 := rfl
theorem rt_178 : zret 178 = some .boolean := rfl
theorem kk_178 : 178 < 267 ∧ zkind 178 = 1 ∧ znar 178 = 0 ∧ zml 178 = 1 := ⟨by decide, rfl, rfl, rfl⟩
theorem ow_179 : zown 179 = 10 := rfl
theorem rt_179 : zret 179 = some .boolean := rfl
theorem kk_179 : 179 < 267 ∧ zkind 179 = 1 ∧ znar 179 = 1 ∧ zml 179 = 2 := ⟨by decide, rfl, rfl, rfl⟩
theorem ow_180 : zown 180 = 10 := rfl
theorem rt_180 : zret 180 = some .boolean := rfl
theorem kk_180 : 180 < 267 ∧ zkind 180 = 1 ∧ znar 180 = 0 ∧ zml 180 = 2 := ⟨by decide, rfl, rfl, rfl⟩
theorem ow_181 : zown 181 = 10 := rfl
theorem rt_181 : zret 181 = some .boolean := rfl
theorem kk_181 : 181 < 267 ∧ zkind 181 = 1 ∧ znar 181 = 0 ∧ zml 181 = 2 := ⟨by decide, rfl, rfl, rfl⟩
theorem ow_182 : zown 182 = 10 := rfl
theorem rt_182 : zret 182 = some .boolean := rfl
theorem kk_182 : 182 < 267 ∧ zkind 182 = 1 ∧ znar 182 = 2 ∧ zml 182 = 3 := ⟨by decide, rfl, rfl, rfl⟩
theorem ow_183 : zown 183 = 10 := rfl
theorem rt_183 : zret 183 = some .boolean := rfl
theorem kk_183 : 183 < 267 ∧ zkind 183 = 1 ∧ znar 183 = 0 ∧ zml 183 = 2 := ⟨by decide, rfl, rfl, rfl⟩
theorem ow_184 : zown 184 = 10 := rfl
theorem rt_184 : zret 184 = some .boolean := rfl
theorem kk_184 : 184 < 267 ∧ zkind 184 = 1 ∧ znar 184 = 0 ∧ zml 184 = 1 := ⟨by decide, rfl, rfl, rfl⟩
theorem ow_185 : zown 185 = 10 := rfl
theorem rt_185 : zret 185 = some .boolean := rfl
theorem kk_185 : 185 < 267 ∧ zkind 185 = 1 ∧ znar 185 = 4 ∧ zml 185 = 5 := ⟨by decide, rfl, rfl, rfl⟩
theorem ow_186 : zown 186 = 10 := rfl
theorem rt_186 : zret 186 = some .boolean := rfl
theorem kk_186 : 186 < 267 ∧ zkind 186 = 1 ∧ znar 186 = 0 ∧ zml 186 = 1 := ⟨by decide, rfl, rfl, rfl⟩
theorem ow_187 : zown 187 = 10 := rfl
theorem rt_187 : zret 187 = some .boolean := rfl
theorem kk_187 : 187 < 267 ∧ zkind 187 = 1 ∧ znar 187 = 0 ∧ zml 187 = 1 := ⟨by decide, rfl, rfl, rfl⟩
theorem ow_188 : zown 188 = 10 := rfl
theorem rt_188 : zret 188 = some .boolean := rfl
theorem kk_188 : 188 < 267 ∧ zkind 188 = 1 ∧ znar 188 = 0 ∧ zml 188 = 1 := ⟨by decide, rfl, rfl, rfl⟩
theorem ow_189 : zown 189 = 10 := rfl
theorem rt_189 : zret 189 = some .boolean := rfl
theorem kk_189 : 189 < 267 ∧ zkind 189 = 1 ∧ znar 189 = 0 ∧ zml 189 = 1 := ⟨by decide, rfl, rfl, rfl⟩
theorem ow_190 : zown 190 = 10 := rfl
theorem rt_190 : zret 190 = some .boolean := rfl
theorem kk_190 : 190 < 267 ∧ zkind 190 = 1 ∧ znar 190 = 0 ∧ zml 190 = 2 := ⟨by decide, rfl, rfl, rfl⟩
theorem ow_191 : zown 191 = 10 := rfl
theorem rt_191 : zret 191 = none := rfl
theorem kk_191 : 191 < 267 ∧ zkind 191 = 1 ∧ znar 191 = 1 ∧ zml 191 = 2 := ⟨by decide, rfl, rfl, rfl⟩
theorem ow_192 : zown 192 = 10 := rfl
theorem rt_192 : zret 192 = some .int := rfl
theorem kk_192 : 192 < 267 ∧ zkind 192 = 1 ∧ znar 192 = 1 ∧ zml 192 = 2 := ⟨by decide, rfl, rfl, rfl⟩
theorem ow_193 : zown 193 = 10 := rfl
theorem rt_193 : zret 193 = some .int := rfl
theorem kk_193 : 193 < 267 ∧ zkind 193 = 1 ∧ znar 193 = 0 ∧ zml 193 = 2 := ⟨by decide, rfl, rfl, rfl⟩
theorem ow_194 : zown 194 = 10 := rfl
theorem rt_194 : zret 194 = some .int := rfl
theorem kk_194 : 194 < 267 ∧ zkind 194 = 1 ∧ znar 194 = 0 ∧ zml 194 = 2 := ⟨by decide, rfl, rfl, rfl⟩
theorem ow_195 : zown 195 = 10 := rfl
theorem rt_195 : zret 195 = some .int := rfl
theorem kk_195 : 195 < 267 ∧ zkind 195 = 1 ∧ znar 195 = 0 ∧ zml 195 = 2 := ⟨by decide, rfl, rfl, rfl⟩
theorem ow_196 : zown 196 = 10 := rfl
theorem rt_196 : zret 196 = some .int := rfl
theorem kk_196 : 196 < 267 ∧ zkind 196 = 1 ∧ znar 196 = 0 ∧ zml 196 = 2 := ⟨by decide, rfl, rfl, rfl⟩
theorem ow_197 : zown 197 = 10 := rfl
theorem rt_197 : zret 197 = some .int := rfl
theorem kk_197 : 197 < 267 ∧ zkind 197 = 1 ∧ znar 197 = 1 ∧ zml 197 = 2 := ⟨by decide, rfl, rfl, rfl⟩
theorem ow_198 : zown 198 = 10 := rfl
theorem rt_198 : zret 198 = some .boolean := rfl
theorem kk_198 : 198 < 267 ∧ zkind 198 = 1 ∧ znar 198 = 0 ∧ zml 198 = 2 := ⟨by decide, rfl, rfl, rfl⟩
theorem ow_199 : zown 199 = 10 := rfl
theorem rt_199 : zret 199 = some .boolean := rfl
theorem kk_199 : 199 < 267 ∧ zkind 199 = 1 ∧ znar 199 = 3 ∧ zml 199 = 4 := ⟨by decide, rfl, rfl, rfl⟩
theorem ow_200 : zown 200 = 10 := rfl
theorem rt_200 : zret 200 = none := rfl
theorem kk_200 : 200 < 267 ∧ zkind 200 = 1 ∧ znar 200 = 0 ∧ zml 200 = 2 := ⟨by decide, rfl, rfl, rfl⟩
theorem ow_201 : zown 201 = 10 := rfl
theorem rt_201 : zret 201 = some .int := rfl
theorem kk_201 : 201 < 267 ∧ zkind 201 = 1 ∧ znar 201 = 1 ∧ zml 201 = 2 := ⟨by decide, rfl, rfl, rfl⟩
theorem ow_202 : zown 202 = 10 := rfl
theorem rt_202 : zret 202 = some .int := rfl
theorem kk_202 : 202 < 267 ∧ zkind 202 = 0 ∧ znar 202 = 2 ∧ zml 202 = 2 := ⟨by decide, rfl, rfl, rfl⟩
theorem ow_203 : zown 203 = 10 := rfl
theorem rt_203 : zret 203 = some .int := rfl
theorem kk_203 : 203 < 267 ∧ zkind 203 = 1 ∧ znar 203 = 1 ∧ zml 203 = 4 := ⟨by decide, rfl, rfl, rfl⟩
theorem ow_204 : zown 204 = 10 := rfl
theorem rt_204 : zret 204 = some .int := rfl
theorem kk_204 : 204 < 267 ∧ zkind 204 = 1 ∧ znar 204 = 0 ∧ zml 204 = 4 := ⟨by decide, rfl, rfl, rfl⟩
theorem ow_205 : zown 205 = 10 := rfl
theorem rt_205 : zret 205 = some .int := rfl
theorem kk_205 : 205 < 267 ∧ zkind 205 = 1 ∧ znar 205 = 0 ∧ zml 205 = 3 := ⟨by decide, rfl, rfl, rfl⟩
theorem ow_206 : zown 206 = 10 := rfl
theorem rt_206 : zret 206 = some .int := rfl
theorem kk_206 : 206 < 267 ∧ zkind 206 = 1 ∧ znar 206 = 1 ∧ zml 206 = 4 := ⟨by decide, rfl, rfl, rfl⟩
theorem ow_207 : zown 207 = 10 := rfl
theorem rt_207 : zret 207 = some .int := rfl
theorem kk_207 : 207 < 267 ∧ zkind 207 = 1 ∧ znar 207 = 1 ∧ zml 207 = 2 := ⟨by decide, rfl, rfl, rfl⟩
theorem ow_208 : zown 208 = 10 := rfl
theorem rt_208 : zret 208 = some .int := rfl
theorem kk_208 : 208 < 267 ∧ zkind 208 = 1 ∧ znar 208 = 5 ∧ zml 208 = 7 := ⟨by decide, rfl, rfl, rfl⟩
theorem ow_209 : zown 209 = 10 := rfl
theorem rt_209 : zret 209 = some .int := rfl
theorem kk_209 : 209 < 267 ∧ zkind 209 = 0 ∧ znar 209 = 1 ∧ zml 209 = 3 := ⟨by decide, rfl, rfl, rfl⟩
theorem ow_210 : zown 210 = 10 := rfl
theorem rt_210 : zret 210 = some .boolean := rfl
theorem kk_210 : 210 < 267 ∧ zkind 210 = 1 ∧ znar 210 = 1 ∧ zml 210 = 2 := ⟨by decide, rfl, rfl, rfl⟩
theorem ow_211 : zown 211 = 10 := rfl
theorem rt_211 : zret 211 = some .int := rfl
theorem kk_211 : 211 < 267 ∧ zkind 211 = 1 ∧ znar 211 = 3 ∧ zml 211 = 8 := ⟨by decide, rfl, rfl, rfl⟩
theorem ow_212 : zown 212 = 10 := rfl
theorem rt_212 : zret 212 = some .int := rfl
theorem kk_212 : 212 < 267 ∧ zkind 212 = 0 ∧ znar 212 = 3 ∧ zml 212 = 3 := ⟨by decide, rfl, rfl, rfl⟩
theorem ow_213 : zown 213 = 10 := rfl
theorem rt_213 : zret 213 = some .int := rfl
theorem kk_213 : 213 < 267 ∧ zkind 213 = 0 ∧ znar 213 = 2 ∧ zml 213 = 2 := ⟨by decide, rfl, rfl, rfl⟩
theorem ow_214 : zown 214 = 10 := rfl
theorem rt_214 : zret 214 = some .int := rfl
theorem kk_214 : 214 < 267 ∧ zkind 214 = 1 ∧ znar 214 = 1 ∧ zml 214 = 4 := ⟨by decide, rfl, rfl, rfl⟩
theorem ow_215 : zown 215 = 10 := rfl
theorem rt_215 : zret 215 = some .boolean := rfl
theorem kk_215 : 215 < 267 ∧ zkind 215 = 1 ∧ znar 215 = 1 ∧ zml 215 = 5 := ⟨by decide, rfl, rfl, rfl⟩
theorem ow_216 : zown 216 = 10 := rfl
theorem rt_216 : zret 216 = some .boolean := rfl
theorem kk_216 : 216 < 267 ∧ zkind 216 = 1 ∧ znar 216 = 2 ∧ zml 216 = 4 := ⟨by decide, rfl, rfl, rfl⟩
theorem ow_217 : zown 217 = 10 := rfl
theorem rt_217 : zret 217 = none := rfl
theorem kk_217 : 217 < 267 ∧ zkind 217 = 1 ∧ znar 217 = 3 ∧ zml 217 = 5 := ⟨by decide, rfl, rfl, rfl⟩
theorem ow_218 : zown 218 = 10 := rfl
theorem rt_218 : zret 218 = none := rfl
theorem kk_218 : 218 < 267 ∧ zkind 218 = 1 ∧ znar 218 = 1 ∧ zml 218 = 7 := ⟨by decide, rfl, rfl, rfl⟩
theorem ow_219 : zown 219 = 10 := rfl
theorem rt_219 : zret 219 = some .int := rfl
theorem kk_219 : 219 < 267 ∧ zkind 219 = 1 ∧ znar 219 = 0 ∧ zml 219 = 1 := ⟨by decide, rfl, rfl, rfl⟩
theorem ow_220 : zown 220 = 10 := rfl
theorem rt_220 : zret 220 = some .int := rfl
theorem kk_220 : 220 < 267 ∧ zkind 220 = 1 ∧ znar 220 = 2 ∧ zml 220 = 6 := ⟨by decide, rfl, rfl, rfl⟩
theorem ow_221 : zown 221 = 10 := rfl
theorem rt_221 : zret 221 = some .int := rfl
theorem kk_221 : 221 < 267 ∧ zkind 221 = 1 ∧ znar 221 = 2 ∧ zml 221 = 5 := ⟨by decide, rfl, rfl, rfl⟩
theorem ow_222 : zown 222 = 10 := rfl
theorem rt_222 : zret 222 = some .int := rfl
theorem kk_222 : 222 < 267 ∧ zkind 222 = 1 ∧ znar 222 = 2 ∧ zml 222 = 3 := ⟨by decide, rfl, rfl, rfl⟩
theorem ow_223 : zown 223 = 10 := rfl
theorem rt_223 : zret 223 = some .boolean := rfl
theorem kk_223 : 223 < 267 ∧ zkind 223 = 1 ∧ znar 223 = 2 ∧ zml 223 = 5 := ⟨by decide, rfl, rfl, rfl⟩
theorem ow_224 : zown 224 = 10 := rfl
theorem rt_224 : zret 224 = some .boolean := rfl
theorem kk_224 : 224 < 267 ∧ zkind 224 = 1 ∧ znar 224 = 1 ∧ zml 224 = 2 := ⟨by decide, rfl, rfl, rfl⟩
theorem ow_225 : zown 225 = 10 := rfl
theorem rt_225 : zret 225 = some .int := rfl
theorem kk_225 : 225 < 267 ∧ zkind 225 = 1 ∧ znar 225 = 2 ∧ zml 225 = 3 := ⟨by decide, rfl, rfl, rfl⟩
theorem ow_226 : zown 226 = 10 := rfl
theorem rt_226 : zret 226 = some .int := rfl
theorem kk_226 : 226 < 267 ∧ zkind 226 = 1 ∧ znar 226 = 2 ∧ zml 226 = 3 := ⟨by decide, rfl, rfl, rfl⟩
theorem ow_227 : zown 227 = 10 := rfl
theorem rt_227 : zret 227 = some .int := rfl
theorem kk_227 : 227 < 267 ∧ zkind 227 = 1 ∧ znar 227 = 1 ∧ zml 227 = 2 := ⟨by decide, rfl, rfl, rfl⟩
theorem ow_228 : zown 228 = 10 := rfl
theorem rt_228 : zret 228 = some .int := rfl
theorem kk_228 : 228 < 267 ∧ zkind 228 = 1 ∧ znar 228 = 3 ∧ zml 228 = 5 := ⟨by decide, rfl, rfl, rfl⟩
theorem ow_229 : zown 229 = 10 := rfl
theorem rt_229 : zret 229 = some .int := rfl
theorem kk_229 : 229 < 267 ∧ zkind 229 = 1 ∧ znar 229 = 2 ∧ zml 229 = 3 := ⟨by decide, rfl, rfl, rfl⟩
theorem ow_230 : zown 230 = 10 := rfl
theorem rt_230 : zret 230 = some .int := rfl
theorem kk_230 : 230 < 267 ∧ zkind 230 = 1 ∧ znar 230 = 3 ∧ zml 230 = 4 := ⟨by decide, rfl, rfl, rfl⟩
theorem ow_231 : zown 231 = 10 := rfl
theorem rt_231 : zret 231 = some .int := rfl
theorem kk_231 : 231 < 267 ∧ zkind 231 = 1 ∧ znar 231 = 2 ∧ zml 231 = 3 := ⟨by decide, rfl, rfl, rfl⟩
theorem ow_232 : zown 232 = 10 := rfl
theorem rt_232 : zret 232 = some .int := rfl
theorem kk_232 : 232 < 267 ∧ zkind 232 = 1 ∧ znar 232 = 2 ∧ zml 232 = 3 := ⟨by decide, rfl, rfl, rfl⟩
theorem ow_233 : zown 233 = 10 := rfl
theorem rt_233 : zret 233 = some .boolean := rfl
theorem kk_233 : 233 < 267 ∧ zkind 233 = 1 ∧ znar 233 = 1 ∧ zml 233 = 2 := ⟨by decide, rfl, rfl, rfl⟩
theorem ow_234 : zown 234 = 10 := rfl
theorem rt_234 : zret 234 = some .int := rfl
theorem kk_234 : 234 < 267 ∧ zkind 234 = 1 ∧ znar 234 = 0 ∧ zml 234 = 1 := ⟨by decide, rfl, rfl, rfl⟩
theorem ow_235 : zown 235 = 10 := rfl
theorem rt_235 : zret 235 = some .int := rfl
theorem kk_235 : 235 < 267 ∧ zkind 235 = 1 ∧ znar 235 = 2 ∧ zml 235 = 7 := ⟨by decide, rfl, rfl, rfl⟩
theorem ow_236 : zown 236 = 10 := rfl
theorem rt_236 : zret 236 = some .int := rfl
theorem kk_236 : 236 < 267 ∧ zkind 236 = 1 ∧ znar 236 = 1 ∧ zml 236 = 4 := ⟨by decide, rfl, rfl, rfl⟩
theorem ow_237 : zown 237 = 10 := rfl
theorem rt_237 : zret 237 = some .int := rfl
theorem kk_237 : 237 < 267 ∧ zkind 237 = 1 ∧ znar 237 = 0 ∧ zml 237 = 3 := ⟨by decide, rfl, rfl, rfl⟩
theorem ow_238 : zown 238 = 10 := rfl
theorem rt_238 : zret 238 = some .boolean := rfl
theorem kk_238 : 238 < 267 ∧ zkind 238 = 1 ∧ znar 238 = 2 ∧ zml 238 = 4 := ⟨by decide, rfl, rfl, rfl⟩
theorem ow_239 : zown 239 = 10 := rfl
theorem rt_239 : zret 239 = some .int := rfl
theorem kk_239 : 239 < 267 ∧ zkind 239 = 1 ∧ znar 239 = 1 ∧ zml 239 = 5 := ⟨by decide, rfl, rfl, rfl⟩
theorem ow_240 : zown 240 = 10 := rfl
theorem rt_240 : zret 240 = some .int := rfl
theorem kk_240 : 240 < 267 ∧ zkind 240 = 1 ∧ znar 240 = 1 ∧ zml 240 = 6 := ⟨by decide, rfl, rfl, rfl⟩
theorem ow_241 : zown 241 = 10 := rfl
theorem rt_241 : zret 241 = some .int := rfl
theorem kk_241 : 241 < 267 ∧ zkind 241 = 1 ∧ znar 241 = 1 ∧ zml 241 = 6 := ⟨by decide, rfl, rfl, rfl⟩
theorem ow_242 : zown 242 = 10 := rfl
theorem rt_242 : zret 242 = some .int := rfl
theorem kk_242 : 242 < 267 ∧ zkind 242 = 1 ∧ znar 242 = 2 ∧ zml 242 = 5 := ⟨by decide, rfl, rfl, rfl⟩
theorem ow_243 : zown 243 = 10 := rfl
theorem rt_243 : zret 243 = some .int := rfl
theorem kk_243 : 243 < 267 ∧ zkind 243 = 1 ∧ znar 243 = 1 ∧ zml 243 = 6 := ⟨by decide, rfl, rfl, rfl⟩
theorem ow_244 : zown 244 = 10 := rfl
theorem rt_244 : zret 244 = some .boolean := rfl
theorem kk_244 : 244 < 267 ∧ zkind 244 = 1 ∧ znar 244 = 1 ∧ zml 244 = 3 := ⟨by decide, rfl, rfl, rfl⟩
theorem ow_245 : zown 245 = 10 := rfl
theorem rt_245 : zret 245 = some .int := rfl
theorem kk_245 : 245 < 267 ∧ zkind 245 = 1 ∧ znar 245 = 1 ∧ zml 245 = 4 := ⟨by decide, rfl, rfl, rfl⟩
theorem ow_246 : zown 246 = 10 := rfl
theorem rt_246 : zret 246 = some .int := rfl
theorem kk_246 : 246 < 267 ∧ zkind 246 = 1 ∧ znar 246 = 2 ∧ zml 246 = 6 := ⟨by decide, rfl, rfl, rfl⟩
theorem ow_247 : zown 247 = 10 := rfl
theorem rt_247 : zret 247 = none := rfl
theorem kk_247 : 247 < 267 ∧ zkind 247 = 1 ∧ znar 247 = 1 ∧ zml 247 = 6 := ⟨by decide, rfl, rfl, rfl⟩
theorem ow_248 : zown 248 = 10 := rfl
theorem rt_248 : zret 248 = some .boolean := rfl
theorem kk_248 : 248 < 267 ∧ zkind 248 = 1 ∧ znar 248 = 2 ∧ zml 248 = 3 := ⟨by decide, rfl, rfl, rfl⟩
theorem ow_249 : zown 249 = 10 := rfl
theorem rt_249 : zret 249 = some .int := rfl
theorem kk_249 : 249 < 267 ∧ zkind 249 = 1 ∧ znar 249 = 2 ∧ zml 249 = 4 := ⟨by decide, rfl, rfl, rfl⟩
theorem ow_250 : zown 250 = 10 := rfl
theorem rt_250 : zret 250 = some .boolean := rfl
theorem kk_250 : 250 < 267 ∧ zkind 250 = 1 ∧ znar 250 = 2 ∧ zml 250 = 3 := ⟨by decide, rfl, rfl, rfl⟩
theorem ow_251 : zown 251 = 10 := rfl
theorem rt_251 : zret 251 = some .int := rfl
theorem kk_251 : 251 < 267 ∧ zkind 251 = 1 ∧ znar 251 = 2 ∧ zml 251 = 4 := ⟨by decide, rfl, rfl, rfl⟩
theorem ow_252 : zown 252 = 10 := rfl
theorem rt_252 : zret 252 = some .int := rfl
theorem kk_252 : 252 < 267 ∧ zkind 252 = 1 ∧ znar 252 = 2 ∧ zml 252 = 5 := ⟨by decide, rfl, rfl, rfl⟩
theorem ow_253 : zown 253 = 10 := rfl
theorem rt_253 : zret 253 = some .boolean := rfl
theorem kk_253 : 253 < 267 ∧ zkind 253 = 1 ∧ znar 253 = 2 ∧ zml 253 = 3 := ⟨by decide, rfl, rfl, rfl⟩
theorem ow_254 : zown 254 = 10 := rfl
theorem rt_254 : zret 254 = some .int := rfl
theorem kk_254 : 254 < 267 ∧ zkind 254 = 1 ∧ znar 254 = 0 ∧ zml 254 = 3 := ⟨by decide, rfl, rfl, rfl⟩
theorem ow_255 : zown 255 = 10 := rfl
theorem rt_255 : zret 255 = some .int := rfl
theorem kk_255 : 255 < 267 ∧ zkind 255 = 1 ∧ znar 255 = 1 ∧ zml 255 = 7 := ⟨by decide, rfl, rfl, rfl⟩
theorem ow_256 : zown 256 = 10 := rfl
theorem rt_256 : zret 256 = some .int := rfl
theorem kk_256 : 256 < 267 ∧ zkind 256 = 1 ∧ znar 256 = 3 ∧ zml 256 = 8 := ⟨by decide, rfl, rfl, rfl⟩
theorem ow_257 : zown 257 = 10 := rfl
theorem rt_257 : zret 257 = some .int := rfl
theorem kk_257 : 257 < 267 ∧ zkind 257 = 0 ∧ znar 257 = 3 ∧ zml 257 = 3 := ⟨by decide, rfl, rfl, rfl⟩
theorem ow_258 : zown 258 = 10 := rfl
theorem rt_258 : zret 258 = some .int := rfl
theorem kk_258 : 258 < 267 ∧ zkind 258 = 1 ∧ znar 258 = 2 ∧ zml 258 = 3 := ⟨by decide, rfl, rfl, rfl⟩
theorem ow_259 : zown 259 = 10 := rfl
theorem rt_259 : zret 259 = some .int := rfl
theorem kk_259 : 259 < 267 ∧ zkind 259 = 1 ∧ znar 259 = 1 ∧ zml 259 = 5 := ⟨by decide, rfl, rfl, rfl⟩
theorem ow_260 : zown 260 = 10 := rfl
theorem rt_260 : zret 260 = some .int := rfl
theorem kk_260 : 260 < 267 ∧ zkind 260 = 1 ∧ znar 260 = 1 ∧ zml 260 = 2 := ⟨by decide, rfl, rfl, rfl⟩
theorem ow_261 : zown 261 = 10 := rfl
theorem rt_261 : zret 261 = some .int := rfl
theorem kk_261 : 261 < 267 ∧ zkind 261 = 1 ∧ znar 261 = 4 ∧ zml 261 = 5 := ⟨by decide, rfl, rfl, rfl⟩
theorem ow_262 : zown 262 = 10 := rfl
theorem rt_262 : zret 262 = some .int := rfl
theorem kk_262 : 262 < 267 ∧ zkind 262 = 1 ∧ znar 262 = 2 ∧ zml 262 = 7 := ⟨by decide, rfl, rfl, rfl⟩
theorem ow_263 : zown 263 = 10 := rfl
theorem rt_263 : zret 263 = some .int := rfl
theorem kk_263 : 263 < 267 ∧ zkind 263 = 1 ∧ znar 263 = 1 ∧ zml 263 = 4 := ⟨by decide, rfl, rfl, rfl⟩
theorem ow_264 : zown 264 = 10 := rfl
theorem rt_264 : zret 264 = some .boolean := rfl
theorem kk_264 : 264 < 267 ∧ zkind 264 = 1 ∧ znar 264 = 1 ∧ zml 264 = 3 := ⟨by decide, rfl, rfl, rfl⟩
theorem ow_265 : zown 265 = 10 := rfl
theorem rt_265 : zret 265 = some .boolean := rfl
theorem kk_265 : 265 < 267 ∧ zkind 265 = 1 ∧ znar 265 = 1 ∧ zml 265 = 3 := ⟨by decide, rfl, rfl, rfl⟩
theorem ow_266 : zown 266 = 10 := rfl
theorem rt_266 : zret 266 = some .int := rfl
theorem kk_266 : 266 < 267 ∧ zkind 266 = 1 ∧ znar 266 = 1 ∧ zml 266 = 2 := ⟨by decide, rfl, rfl, rfl⟩
theorem gf_0_10 : zfld 0 10 = some (0, 0) ∧ 0 < zN 0 ∧ zfk 0 0 = 2 := by decide +kernel
theorem gf_0_16 : zfld 0 16 = some (0, 1) ∧ 1 < zN 0 ∧ zfk 0 1 = 2 := by decide +kernel
theorem gf_0_19 : zfld 0 19 = some (0, 2) ∧ 2 < zN 0 ∧ zfk 0 2 = 1 := by decide +kernel
theorem gf_0_25 : zfld 0 25 = some (0, 3) ∧ 3 < zN 0 ∧ zfk 0 3 = 2 := by decide +kernel
theorem gf_0_30 : zfld 0 30 = some (0, 4) ∧ 4 < zN 0 ∧ zfk 0 4 = 0 := by decide +kernel
theorem gf_0_34 : zfld 0 34 = some (0, 5) ∧ 5 < zN 0 ∧ zfk 0 5 = 0 := by decide +kernel
theorem gf_0_37 : zfld 0 37 = some (0, 6) ∧ 6 < zN 0 ∧ zfk 0 6 = 2 := by decide +kernel
theorem gf_0_44 : zfld 0 44 = some (0, 7) ∧ 7 < zN 0 ∧ zfk 0 7 = 2 := by decide +kernel
theorem gf_0_48 : zfld 0 48 = some (0, 8) ∧ 8 < zN 0 ∧ zfk 0 8 = 2 := by decide +kernel
theorem gf_0_52 : zfld 0 52 = some (1, 0) ∧ 0 < zN 1 ∧ zfk 1 0 = 2 := by decide +kernel
theorem gf_0_55 : zfld 0 55 = some (2, 9) ∧ 9 < zN 2 ∧ zfk 2 9 = 0 := by decide +kernel
theorem gf_0_65 : zfld 0 65 = some (1, 11) ∧ 11 < zN 1 ∧ zfk 1 11 = 0 := by decide +kernel
theorem gf_0_75 : zfld 0 75 = some (2, 4) ∧ 4 < zN 2 ∧ zfk 2 4 = 0 := by decide +kernel
theorem gf_0_78 : zfld 0 78 = some (1, 12) ∧ 12 < zN 1 ∧ zfk 1 12 = 0 := by decide +kernel
theorem gf_0_81 : zfld 0 81 = some (1, 13) ∧ 13 < zN 1 ∧ zfk 1 13 = 0 := by decide +kernel
theorem gf_0_84 : zfld 0 84 = some (1, 6) ∧ 6 < zN 1 ∧ zfk 1 6 = 2 := by decide +kernel
theorem gf_0_88 : zfld 0 88 = some (1, 7) ∧ 7 < zN 1 ∧ zfk 1 7 = 2 := by decide +kernel
theorem gf_0_91 : zfld 0 91 = some (2, 0) ∧ 0 < zN 2 ∧ zfk 2 0 = 2 := by decide +kernel
theorem gf_0_98 : zfld 0 98 = some (2, 3) ∧ 3 < zN 2 ∧ zfk 2 3 = 2 := by decide +kernel
theorem gf_0_112 : zfld 0 112 = some (2, 5) ∧ 5 < zN 2 ∧ zfk 2 5 = 0 := by decide +kernel
theorem gf_0_125 : zfld 0 125 = some (9, 1) ∧ 1 < zN 9 ∧ zfk 9 1 = 0 := by decide +kernel
theorem gf_0_135 : zfld 0 135 = some (1, 2) ∧ 2 < zN 1 ∧ zfk 1 2 = 2 := by decide +kernel
theorem gf_0_139 : zfld 0 139 = some (9, 12) ∧ 12 < zN 9 ∧ zfk 9 12 = 2 := by decide +kernel
theorem gf_0_146 : zfld 0 146 = some (4, 5) ∧ 5 < zN 4 ∧ zfk 4 5 = 0 := by decide +kernel
theorem gf_0_152 : zfld 0 152 = some (9, 13) ∧ 13 < zN 9 ∧ zfk 9 13 = 2 := by decide +kernel
theorem gf_0_155 : zfld 0 155 = some (1, 8) ∧ 8 < zN 1 ∧ zfk 1 8 = 2 := by decide +kernel
theorem gf_0_169 : zfld 0 169 = some (1, 3) ∧ 3 < zN 1 ∧ zfk 1 3 = 2 := by decide +kernel
theorem gf_0_173 : zfld 0 173 = some (9, 14) ∧ 14 < zN 9 ∧ zfk 9 14 = 2 := by decide +kernel
theorem gf_0_179 : zfld 0 179 = some (2, 8) ∧ 8 < zN 2 ∧ zfk 2 8 = 0 := by decide +kernel
theorem gf_0_182 : zfld 0 182 = some (6, 6) ∧ 6 < zN 6 ∧ zfk 6 6 = 0 := by decide +kernel
theorem gf_0_188 : zfld 0 188 = some (1, 4) ∧ 4 < zN 1 ∧ zfk 1 4 = 2 := by decide +kernel
theorem gf_0_192 : zfld 0 192 = some (9, 15) ∧ 15 < zN 9 ∧ zfk 9 15 = 2 := by decide +kernel
theorem gf_0_198 : zfld 0 198 = some (7, 1) ∧ 1 < zN 7 ∧ zfk 7 1 = 0 := by decide +kernel
theorem gf_0_201 : zfld 0 201 = some (9, 10) ∧ 10 < zN 9 ∧ zfk 9 10 = 0 := by decide +kernel
theorem gf_0_204 : zfld 0 204 = some (9, 11) ∧ 11 < zN 9 ∧ zfk 9 11 = 0 := by decide +kernel
theorem gf_0_207 : zfld 0 207 = some (2, 1) ∧ 1 < zN 2 ∧ zfk 2 1 = 2 := by decide +kernel
theorem gf_0_210 : zfld 0 210 = some (2, 2) ∧ 2 < zN 2 ∧ zfk 2 2 = 2 := by decide +kernel
theorem gf_0_221 : zfld 0 221 = some (6, 0) ∧ 0 < zN 6 ∧ zfk 6 0 = 2 := by decide +kernel
theorem gf_0_224 : zfld 0 224 = some (6, 1) ∧ 1 < zN 6 ∧ zfk 6 1 = 2 := by decide +kernel
theorem gf_0_227 : zfld 0 227 = some (6, 2) ∧ 2 < zN 6 ∧ zfk 6 2 = 2 := by decide +kernel
theorem gf_0_230 : zfld 0 230 = some (6, 3) ∧ 3 < zN 6 ∧ zfk 6 3 = 2 := by decide +kernel
theorem gf_0_233 : zfld 0 233 = some (6, 4) ∧ 4 < zN 6 ∧ zfk 6 4 = 2 := by decide +kernel
theorem gf_0_236 : zfld 0 236 = some (6, 5) ∧ 5 < zN 6 ∧ zfk 6 5 = 2 := by decide +kernel
theorem gf_0_239 : zfld 0 239 = some (2, 10) ∧ 10 < zN 2 ∧ zfk 2 10 = 0 := by decide +kernel
theorem gf_0_240 : zfld 0 240 = some (1, 1) ∧ 1 < zN 1 ∧ zfk 1 1 = 2 := by decide +kernel
theorem gf_0_244 : zfld 0 244 = some (3, 0) ∧ 0 < zN 3 ∧ zfk 3 0 = 2 := by decide +kernel
theorem gf_0_248 : zfld 0 248 = some (3, 1) ∧ 1 < zN 3 ∧ zfk 3 1 = 2 := by decide +kernel
theorem gf_0_251 : zfld 0 251 = some (3, 2) ∧ 2 < zN 3 ∧ zfk 3 2 = 2 := by decide +kernel
theorem gf_0_254 : zfld 0 254 = some (3, 3) ∧ 3 < zN 3 ∧ zfk 3 3 = 2 := by decide +kernel
theorem gf_0_277 : zfld 0 277 = some (2, 7) ∧ 7 < zN 2 ∧ zfk 2 7 = 0 := by decide +kernel
theorem gf_0_299 : zfld 0 299 = some (1, 14) ∧ 14 < zN 1 ∧ zfk 1 14 = 0 := by decide +kernel
theorem gf_0_301 : zfld 0 301 = some (1, 15) ∧ 15 < zN 1 ∧ zfk 1 15 = 0 := by decide +kernel
theorem gf_0_306 : zfld 0 306 = some (6, 8) ∧ 8 < zN 6 ∧ zfk 6 8 = 0 := by decide +kernel
theorem gf_0_309 : zfld 0 309 = some (6, 9) ∧ 9 < zN 6 ∧ zfk 6 9 = 0 := by decide +kernel
theorem gf_0_321 : zfld 0 321 = some (1, 5) ∧ 5 < zN 1 ∧ zfk 1 5 = 2 := by decide +kernel
theorem gf_0_325 : zfld 0 325 = some (8, 2) ∧ 2 < zN 8 ∧ zfk 8 2 = 0 := by decide +kernel
theorem gf_0_359 : zfld 0 359 = some (2, 6) ∧ 6 < zN 2 ∧ zfk 2 6 = 0 := by decide +kernel
theorem gf_1_12 : zfld 1 12 = some (1, 0) ∧ 0 < zN 1 ∧ zfk 1 0 = 2 := by decide +kernel
theorem gf_1_21 : zfld 1 21 = some (1, 1) ∧ 1 < zN 1 ∧ zfk 1 1 = 2 := by decide +kernel
theorem gf_1_28 : zfld 1 28 = some (1, 2) ∧ 2 < zN 1 ∧ zfk 1 2 = 2 := by decide +kernel
theorem gf_1_35 : zfld 1 35 = some (1, 3) ∧ 3 < zN 1 ∧ zfk 1 3 = 2 := by decide +kernel
theorem gf_1_42 : zfld 1 42 = some (1, 4) ∧ 4 < zN 1 ∧ zfk 1 4 = 2 := by decide +kernel
theorem gf_1_49 : zfld 1 49 = some (1, 5) ∧ 5 < zN 1 ∧ zfk 1 5 = 2 := by decide +kernel
theorem gf_1_53 : zfld 1 53 = some (1, 6) ∧ 6 < zN 1 ∧ zfk 1 6 = 2 := by decide +kernel
theorem gf_1_57 : zfld 1 57 = some (1, 7) ∧ 7 < zN 1 ∧ zfk 1 7 = 2 := by decide +kernel
theorem gf_1_60 : zfld 1 60 = some (1, 8) ∧ 8 < zN 1 ∧ zfk 1 8 = 2 := by decide +kernel
theorem gf_1_63 : zfld 1 63 = some (1, 9) ∧ 9 < zN 1 ∧ zfk 1 9 = 2 := by decide +kernel
theorem gf_1_66 : zfld 1 66 = some (1, 10) ∧ 10 < zN 1 ∧ zfk 1 10 = 2 := by decide +kernel
theorem gf_1_69 : zfld 1 69 = some (1, 12) ∧ 12 < zN 1 ∧ zfk 1 12 = 0 := by decide +kernel
theorem gf_1_73 : zfld 1 73 = some (1, 13) ∧ 13 < zN 1 ∧ zfk 1 13 = 0 := by decide +kernel
theorem gf_1_101 : zfld 1 101 = some (1, 11) ∧ 11 < zN 1 ∧ zfk 1 11 = 0 := by decide +kernel
theorem gf_1_104 : zfld 1 104 = some (1, 14) ∧ 14 < zN 1 ∧ zfk 1 14 = 0 := by decide +kernel
theorem gf_1_107 : zfld 1 107 = some (1, 15) ∧ 15 < zN 1 ∧ zfk 1 15 = 0 := by decide +kernel
theorem gf_1_110 : zfld 1 110 = some (2, 0) ∧ 0 < zN 2 ∧ zfk 2 0 = 2 := by decide +kernel
theorem gf_1_113 : zfld 1 113 = some (2, 1) ∧ 1 < zN 2 ∧ zfk 2 1 = 2 := by decide +kernel
theorem gf_1_116 : zfld 1 116 = some (2, 2) ∧ 2 < zN 2 ∧ zfk 2 2 = 2 := by decide +kernel
theorem gf_1_119 : zfld 1 119 = some (2, 3) ∧ 3 < zN 2 ∧ zfk 2 3 = 2 := by decide +kernel
theorem gf_1_122 : zfld 1 122 = some (2, 4) ∧ 4 < zN 2 ∧ zfk 2 4 = 0 := by decide +kernel
theorem gf_1_125 : zfld 1 125 = some (2, 5) ∧ 5 < zN 2 ∧ zfk 2 5 = 0 := by decide +kernel
theorem gf_1_178 : zfld 1 178 = some (2, 8) ∧ 8 < zN 2 ∧ zfk 2 8 = 0 := by decide +kernel
theorem gf_1_184 : zfld 1 184 = some (6, 1) ∧ 1 < zN 6 ∧ zfk 6 1 = 2 := by decide +kernel
theorem gf_1_190 : zfld 1 190 = some (2, 7) ∧ 7 < zN 2 ∧ zfk 2 7 = 0 := by decide +kernel
theorem gf_1_193 : zfld 1 193 = some (6, 2) ∧ 2 < zN 6 ∧ zfk 6 2 = 2 := by decide +kernel
theorem gf_1_202 : zfld 1 202 = some (2, 6) ∧ 6 < zN 2 ∧ zfk 2 6 = 0 := by decide +kernel
theorem gf_1_209 : zfld 1 209 = some (6, 6) ∧ 6 < zN 6 ∧ zfk 6 6 = 0 := by decide +kernel
theorem gf_2_9 : zfld 2 9 = some (2, 0) ∧ 0 < zN 2 ∧ zfk 2 0 = 2 := by decide +kernel
theorem gf_2_15 : zfld 2 15 = some (2, 1) ∧ 1 < zN 2 ∧ zfk 2 1 = 2 := by decide +kernel
theorem gf_2_18 : zfld 2 18 = some (2, 2) ∧ 2 < zN 2 ∧ zfk 2 2 = 2 := by decide +kernel
theorem gf_2_21 : zfld 2 21 = some (2, 3) ∧ 3 < zN 2 ∧ zfk 2 3 = 2 := by decide +kernel
theorem gf_2_30 : zfld 2 30 = some (2, 4) ∧ 4 < zN 2 ∧ zfk 2 4 = 0 := by decide +kernel
theorem gf_2_34 : zfld 2 34 = some (2, 5) ∧ 5 < zN 2 ∧ zfk 2 5 = 0 := by decide +kernel
theorem gf_2_37 : zfld 2 37 = some (2, 6) ∧ 6 < zN 2 ∧ zfk 2 6 = 0 := by decide +kernel
theorem gf_2_40 : zfld 2 40 = some (2, 7) ∧ 7 < zN 2 ∧ zfk 2 7 = 0 := by decide +kernel
theorem gf_2_43 : zfld 2 43 = some (2, 8) ∧ 8 < zN 2 ∧ zfk 2 8 = 0 := by decide +kernel
theorem gf_2_46 : zfld 2 46 = some (2, 9) ∧ 9 < zN 2 ∧ zfk 2 9 = 0 := by decide +kernel
theorem gf_2_49 : zfld 2 49 = some (2, 10) ∧ 10 < zN 2 ∧ zfk 2 10 = 0 := by decide +kernel
theorem gf_3_9 : zfld 3 9 = some (3, 0) ∧ 0 < zN 3 ∧ zfk 3 0 = 2 := by decide +kernel
theorem gf_3_15 : zfld 3 15 = some (3, 1) ∧ 1 < zN 3 ∧ zfk 3 1 = 2 := by decide +kernel
theorem gf_3_18 : zfld 3 18 = some (3, 2) ∧ 2 < zN 3 ∧ zfk 3 2 = 2 := by decide +kernel
theorem gf_3_21 : zfld 3 21 = some (3, 3) ∧ 3 < zN 3 ∧ zfk 3 3 = 2 := by decide +kernel
theorem gf_3_30 : zfld 3 30 = some (2, 10) ∧ 10 < zN 2 ∧ zfk 2 10 = 0 := by decide +kernel
theorem gf_3_36 : zfld 3 36 = some (2, 5) ∧ 5 < zN 2 ∧ zfk 2 5 = 0 := by decide +kernel
theorem gf_4_12 : zfld 4 12 = some (4, 0) ∧ 0 < zN 4 ∧ zfk 4 0 = 2 := by decide +kernel
theorem gf_4_18 : zfld 4 18 = some (4, 1) ∧ 1 < zN 4 ∧ zfk 4 1 = 2 := by decide +kernel
theorem gf_4_22 : zfld 4 22 = some (4, 2) ∧ 2 < zN 4 ∧ zfk 4 2 = 2 := by decide +kernel
theorem gf_4_25 : zfld 4 25 = some (4, 3) ∧ 3 < zN 4 ∧ zfk 4 3 = 2 := by decide +kernel
theorem gf_4_28 : zfld 4 28 = some (4, 4) ∧ 4 < zN 4 ∧ zfk 4 4 = 2 := by decide +kernel
theorem gf_4_41 : zfld 4 41 = some (4, 5) ∧ 5 < zN 4 ∧ zfk 4 5 = 0 := by decide +kernel
theorem gf_4_45 : zfld 4 45 = some (5, 3) ∧ 3 < zN 5 ∧ zfk 5 3 = 0 := by decide +kernel
theorem gf_5_9 : zfld 5 9 = some (5, 0) ∧ 0 < zN 5 ∧ zfk 5 0 = 2 := by decide +kernel
theorem gf_5_15 : zfld 5 15 = some (5, 1) ∧ 1 < zN 5 ∧ zfk 5 1 = 2 := by decide +kernel
theorem gf_5_18 : zfld 5 18 = some (5, 2) ∧ 2 < zN 5 ∧ zfk 5 2 = 2 := by decide +kernel
theorem gf_5_27 : zfld 5 27 = some (5, 3) ∧ 3 < zN 5 ∧ zfk 5 3 = 0 := by decide +kernel
theorem gf_6_9 : zfld 6 9 = some (6, 0) ∧ 0 < zN 6 ∧ zfk 6 0 = 2 := by decide +kernel
theorem gf_6_15 : zfld 6 15 = some (6, 1) ∧ 1 < zN 6 ∧ zfk 6 1 = 2 := by decide +kernel
theorem gf_6_18 : zfld 6 18 = some (6, 2) ∧ 2 < zN 6 ∧ zfk 6 2 = 2 := by decide +kernel
theorem gf_6_21 : zfld 6 21 = some (6, 3) ∧ 3 < zN 6 ∧ zfk 6 3 = 2 := by decide +kernel
theorem gf_6_24 : zfld 6 24 = some (6, 4) ∧ 4 < zN 6 ∧ zfk 6 4 = 2 := by decide +kernel
theorem gf_6_27 : zfld 6 27 = some (6, 5) ∧ 5 < zN 6 ∧ zfk 6 5 = 2 := by decide +kernel
theorem gf_6_30 : zfld 6 30 = some (6, 7) ∧ 7 < zN 6 ∧ zfk 6 7 = 2 := by decide +kernel
theorem gf_6_39 : zfld 6 39 = some (6, 6) ∧ 6 < zN 6 ∧ zfk 6 6 = 0 := by decide +kernel
theorem gf_6_58 : zfld 6 58 = some (6, 8) ∧ 8 < zN 6 ∧ zfk 6 8 = 0 := by decide +kernel
theorem gf_6_61 : zfld 6 61 = some (6, 9) ∧ 9 < zN 6 ∧ zfk 6 9 = 0 := by decide +kernel
theorem gf_7_10 : zfld 7 10 = some (7, 0) ∧ 0 < zN 7 ∧ zfk 7 0 = 2 := by decide +kernel
theorem gf_7_20 : zfld 7 20 = some (7, 1) ∧ 1 < zN 7 ∧ zfk 7 1 = 0 := by decide +kernel
theorem gf_7_24 : zfld 7 24 = some (5, 3) ∧ 3 < zN 5 ∧ zfk 5 3 = 0 := by decide +kernel
theorem gf_8_9 : zfld 8 9 = some (8, 0) ∧ 0 < zN 8 ∧ zfk 8 0 = 2 := by decide +kernel
theorem gf_8_15 : zfld 8 15 = some (8, 1) ∧ 1 < zN 8 ∧ zfk 8 1 = 2 := by decide +kernel
theorem gf_8_24 : zfld 8 24 = some (8, 2) ∧ 2 < zN 8 ∧ zfk 8 2 = 0 := by decide +kernel
theorem gf_9_9 : zfld 9 9 = some (9, 0) ∧ 0 < zN 9 ∧ zfk 9 0 = 2 := by decide +kernel
theorem gf_9_15 : zfld 9 15 = some (9, 2) ∧ 2 < zN 9 ∧ zfk 9 2 = 2 := by decide +kernel
theorem gf_9_18 : zfld 9 18 = some (9, 3) ∧ 3 < zN 9 ∧ zfk 9 3 = 2 := by decide +kernel
theorem gf_9_21 : zfld 9 21 = some (9, 4) ∧ 4 < zN 9 ∧ zfk 9 4 = 2 := by decide +kernel
theorem gf_9_24 : zfld 9 24 = some (9, 11) ∧ 11 < zN 9 ∧ zfk 9 11 = 0 := by decide +kernel
theorem gf_9_31 : zfld 9 31 = some (9, 12) ∧ 12 < zN 9 ∧ zfk 9 12 = 2 := by decide +kernel
theorem gf_9_35 : zfld 9 35 = some (9, 13) ∧ 13 < zN 9 ∧ zfk 9 13 = 2 := by decide +kernel
theorem gf_9_41 : zfld 9 41 = some (9, 14) ∧ 14 < zN 9 ∧ zfk 9 14 = 2 := by decide +kernel
theorem gf_9_48 : zfld 9 48 = some (9, 15) ∧ 15 < zN 9 ∧ zfk 9 15 = 2 := by decide +kernel
theorem gf_9_52 : zfld 9 52 = some (9, 1) ∧ 1 < zN 9 ∧ zfk 9 1 = 0 := by decide +kernel
theorem gf_9_55 : zfld 9 55 = some (9, 9) ∧ 9 < zN 9 ∧ zfk 9 9 = 0 := by decide +kernel
theorem gf_9_58 : zfld 9 58 = some (9, 10) ∧ 10 < zN 9 ∧ zfk 9 10 = 0 := by decide +kernel
theorem gf_9_64 : zfld 9 64 = some (9, 6) ∧ 6 < zN 9 ∧ zfk 9 6 = 0 := by decide +kernel
theorem gf_9_70 : zfld 9 70 = some (9, 5) ∧ 5 < zN 9 ∧ zfk 9 5 = 0 := by decide +kernel
theorem gf_9_107 : zfld 9 107 = some (9, 7) ∧ 7 < zN 9 ∧ zfk 9 7 = 0 := by decide +kernel
theorem gf_9_110 : zfld 9 110 = some (9, 8) ∧ 8 < zN 9 ∧ zfk 9 8 = 0 := by decide +kernel
theorem gf_9_120 : zfld 9 120 = some (4, 5) ∧ 5 < zN 4 ∧ zfk 4 5 = 0 := by decide +kernel
theorem gf_9_123 : zfld 9 123 = some (4, 0) ∧ 0 < zN 4 ∧ zfk 4 0 = 2 := by decide +kernel
theorem gf_9_127 : zfld 9 127 = some (5, 3) ∧ 3 < zN 5 ∧ zfk 5 3 = 0 := by decide +kernel
theorem gf_9_146 : zfld 9 146 = some (7, 1) ∧ 1 < zN 7 ∧ zfk 7 1 = 0 := by decide +kernel
theorem gf_9_149 : zfld 9 149 = some (7, 0) ∧ 0 < zN 7 ∧ zfk 7 0 = 2 := by decide +kernel
theorem gf_9_169 : zfld 9 169 = some (6, 6) ∧ 6 < zN 6 ∧ zfk 6 6 = 0 := by decide +kernel
theorem gf_9_172 : zfld 9 172 = some (6, 0) ∧ 0 < zN 6 ∧ zfk 6 0 = 2 := by decide +kernel
theorem gf_9_179 : zfld 9 179 = some (6, 1) ∧ 1 < zN 6 ∧ zfk 6 1 = 2 := by decide +kernel
theorem gf_9_182 : zfld 9 182 = some (6, 2) ∧ 2 < zN 6 ∧ zfk 6 2 = 2 := by decide +kernel
theorem gf_9_185 : zfld 9 185 = some (6, 3) ∧ 3 < zN 6 ∧ zfk 6 3 = 2 := by decide +kernel
theorem gf_9_188 : zfld 9 188 = some (6, 4) ∧ 4 < zN 6 ∧ zfk 6 4 = 2 := by decide +kernel
theorem gf_9_195 : zfld 9 195 = some (6, 5) ∧ 5 < zN 6 ∧ zfk 6 5 = 2 := by decide +kernel
theorem gf_10_7 : zfld 10 7 = some (10, 0) ∧ 0 < zN 10 ∧ zfk 10 0 = 2 := by decide +kernel
theorem gf_10_13 : zfld 10 13 = some (10, 1) ∧ 1 < zN 10 ∧ zfk 10 1 = 2 := by decide +kernel
theorem gf_10_16 : zfld 10 16 = some (10, 2) ∧ 2 < zN 10 ∧ zfk 10 2 = 2 := by decide +kernel
theorem gf_10_19 : zfld 10 19 = some (10, 3) ∧ 3 < zN 10 ∧ zfk 10 3 = 2 := by decide +kernel
theorem gf_10_22 : zfld 10 22 = some (10, 6) ∧ 6 < zN 10 ∧ zfk 10 6 = 2 := by decide +kernel
theorem gf_10_25 : zfld 10 25 = some (10, 7) ∧ 7 < zN 10 ∧ zfk 10 7 = 2 := by decide +kernel
theorem gf_10_28 : zfld 10 28 = some (10, 8) ∧ 8 < zN 10 ∧ zfk 10 8 = 2 := by decide +kernel
theorem gf_10_31 : zfld 10 31 = some (10, 9) ∧ 9 < zN 10 ∧ zfk 10 9 = 2 := by decide +kernel
theorem gf_10_34 : zfld 10 34 = some (10, 10) ∧ 10 < zN 10 ∧ zfk 10 10 = 2 := by decide +kernel
theorem gf_10_37 : zfld 10 37 = some (10, 11) ∧ 11 < zN 10 ∧ zfk 10 11 = 2 := by decide +kernel
theorem gf_10_40 : zfld 10 40 = some (10, 12) ∧ 12 < zN 10 ∧ zfk 10 12 = 2 := by decide +kernel
theorem gf_10_43 : zfld 10 43 = some (10, 13) ∧ 13 < zN 10 ∧ zfk 10 13 = 2 := by decide +kernel
theorem gf_10_46 : zfld 10 46 = some (10, 28) ∧ 28 < zN 10 ∧ zfk 10 28 = 0 := by decide +kernel
theorem gf_10_50 : zfld 10 50 = some (10, 31) ∧ 31 < zN 10 ∧ zfk 10 31 = 2 := by decide +kernel
theorem gf_10_57 : zfld 10 57 = some (10, 4) ∧ 4 < zN 10 ∧ zfk 10 4 = 0 := by decide +kernel
theorem gf_10_76 : zfld 10 76 = some (10, 19) ∧ 19 < zN 10 ∧ zfk 10 19 = 0 := by decide +kernel
theorem gf_10_79 : zfld 10 79 = some (10, 20) ∧ 20 < zN 10 ∧ zfk 10 20 = 0 := by decide +kernel
theorem gf_10_82 : zfld 10 82 = some (10, 22) ∧ 22 < zN 10 ∧ zfk 10 22 = 0 := by decide +kernel
theorem gf_10_148 : zfld 10 148 = some (10, 14) ∧ 14 < zN 10 ∧ zfk 10 14 = 0 := by decide +kernel
theorem gf_10_166 : zfld 10 166 = some (10, 21) ∧ 21 < zN 10 ∧ zfk 10 21 = 0 := by decide +kernel
theorem gf_10_178 : zfld 10 178 = some (10, 23) ∧ 23 < zN 10 ∧ zfk 10 23 = 0 := by decide +kernel
theorem gf_10_181 : zfld 10 181 = some (10, 24) ∧ 24 < zN 10 ∧ zfk 10 24 = 0 := by decide +kernel
theorem gf_10_184 : zfld 10 184 = some (10, 25) ∧ 25 < zN 10 ∧ zfk 10 25 = 0 := by decide +kernel
theorem gf_10_193 : zfld 10 193 = some (10, 16) ∧ 16 < zN 10 ∧ zfk 10 16 = 0 := by decide +kernel
theorem gf_10_196 : zfld 10 196 = some (10, 27) ∧ 27 < zN 10 ∧ zfk 10 27 = 0 := by decide +kernel
theorem gf_10_227 : zfld 10 227 = some (10, 15) ∧ 15 < zN 10 ∧ zfk 10 15 = 0 := by decide +kernel
theorem gf_10_233 : zfld 10 233 = some (10, 29) ∧ 29 < zN 10 ∧ zfk 10 29 = 0 := by decide +kernel
theorem gf_10_240 : zfld 10 240 = some (10, 17) ∧ 17 < zN 10 ∧ zfk 10 17 = 0 := by decide +kernel
theorem gf_10_256 : zfld 10 256 = some (10, 18) ∧ 18 < zN 10 ∧ zfk 10 18 = 0 := by decide +kernel
theorem gf_10_295 : zfld 10 295 = some (10, 26) ∧ 26 < zN 10 ∧ zfk 10 26 = 0 := by decide +kernel
theorem gf_10_342 : zfld 10 342 = some (10, 30) ∧ 30 < zN 10 ∧ zfk 10 30 = 1 := by decide +kernel
theorem gf_10_423 : zfld 10 423 = some (10, 5) ∧ 5 < zN 10 ∧ zfk 10 5 = 1 := by decide +kernel
theorem rs_0_58 : zres 0 58 = some 11 := by decide +kernel
theorem rs_0_61 : zres 0 61 = some 13 := by decide +kernel
theorem rs_0_68 : zres 0 68 = some 14 := by decide +kernel
theorem rs_0_72 : zres 0 72 = some 16 := by decide +kernel
theorem rs_0_94 : zres 0 94 = some 17 := by decide +kernel
theorem rs_0_101 : zres 0 101 = some 19 := by decide +kernel
theorem rs_0_105 : zres 0 105 = some 20 := by decide +kernel
theorem rs_0_108 : zres 0 108 = some 23 := by decide +kernel
theorem rs_0_115 : zres 0 115 = some 25 := by decide +kernel
theorem rs_0_119 : zres 0 119 = some 49 := by decide +kernel
theorem rs_0_122 : zres 0 122 = some 50 := by decide +kernel
theorem rs_0_128 : zres 0 128 = some 53 := by decide +kernel
theorem rs_0_131 : zres 0 131 = some 69 := by decide +kernel
theorem rs_0_140 : zres 0 140 = some 81 := by decide +kernel
theorem rs_0_149 : zres 0 149 = some 83 := by decide +kernel
theorem rs_0_156 : zres 0 156 = some 1000 := by decide +kernel
theorem rs_0_162 : zres 0 162 = some 84 := by decide +kernel
theorem rs_0_166 : zres 0 166 = some 85 := by decide +kernel
theorem rs_0_174 : zres 0 174 = some 88 := by decide +kernel
theorem rs_0_185 : zres 0 185 = some 89 := by decide +kernel
theorem rs_0_193 : zres 0 193 = some 90 := by decide +kernel
theorem rs_0_213 : zres 0 213 = some 27 := by decide +kernel
theorem rs_0_217 : zres 0 217 = some 93 := by decide +kernel
theorem rs_0_255 : zres 0 255 = some 98 := by decide +kernel
theorem rs_0_258 : zres 0 258 = some 37 := by decide +kernel
theorem rs_0_261 : zres 0 261 = some 40 := by decide +kernel
theorem rs_0_265 : zres 0 265 = some 42 := by decide +kernel
theorem rs_0_269 : zres 0 269 = some 21 := by decide +kernel
theorem rs_0_272 : zres 0 272 = some 1001 := by decide +kernel
theorem rs_0_279 : zres 0 279 = some 26 := by decide +kernel
theorem rs_0_282 : zres 0 282 = some 36 := by decide +kernel
theorem rs_0_285 : zres 0 285 = some 103 := by decide +kernel
theorem rs_0_288 : zres 0 288 = some 28 := by decide +kernel
theorem rs_0_293 : zres 0 293 = some 106 := by decide +kernel
theorem rs_0_296 : zres 0 296 = some 107 := by decide +kernel
theorem rs_0_303 : zres 0 303 = some 110 := by decide +kernel
theorem rs_0_312 : zres 0 312 = some 114 := by decide +kernel
theorem rs_0_315 : zres 0 315 = some 39 := by decide +kernel
theorem rs_0_318 : zres 0 318 = some 1002 := by decide +kernel
theorem rs_0_328 : zres 0 328 = some 117 := by decide +kernel
theorem rs_0_332 : zres 0 332 = some 119 := by decide +kernel
theorem rs_0_335 : zres 0 335 = some 121 := by decide +kernel
theorem rs_0_338 : zres 0 338 = some 125 := by decide +kernel
theorem rs_0_341 : zres 0 341 = some 128 := by decide +kernel
theorem rs_0_344 : zres 0 344 = some 132 := by decide +kernel
theorem rs_0_347 : zres 0 347 = some 133 := by decide +kernel
theorem rs_0_350 : zres 0 350 = some 135 := by decide +kernel
theorem rs_0_353 : zres 0 353 = some 137 := by decide +kernel
theorem rs_0_356 : zres 0 356 = some 140 := by decide +kernel
theorem rs_0_362 : zres 0 362 = some 144 := by decide +kernel
theorem rs_1_76 : zres 1 76 = some 21 := by decide +kernel
theorem rs_1_80 : zres 1 80 = some 141 := by decide +kernel
theorem rs_1_83 : zres 1 83 = some 81 := by decide +kernel
theorem rs_1_86 : zres 1 86 = some 88 := by decide +kernel
theorem rs_1_89 : zres 1 89 = some 90 := by decide +kernel
theorem rs_1_92 : zres 1 92 = some 142 := by decide +kernel
theorem rs_1_95 : zres 1 95 = some 1000 := by decide +kernel
theorem rs_1_128 : zres 1 128 = some 28 := by decide +kernel
theorem rs_1_134 : zres 1 134 = some 29 := by decide +kernel
theorem rs_1_138 : zres 1 138 = some 35 := by decide +kernel
theorem rs_1_142 : zres 1 142 = some 27 := by decide +kernel
theorem rs_1_146 : zres 1 146 = some 37 := by decide +kernel
theorem rs_1_150 : zres 1 150 = some 1001 := by decide +kernel
theorem rs_1_156 : zres 1 156 = some 26 := by decide +kernel
theorem rs_1_159 : zres 1 159 = some 36 := by decide +kernel
theorem rs_1_162 : zres 1 162 = some 38 := by decide +kernel
theorem rs_1_166 : zres 1 166 = some 46 := by decide +kernel
theorem rs_1_170 : zres 1 170 = some 47 := by decide +kernel
theorem rs_1_174 : zres 1 174 = some 39 := by decide +kernel
theorem rs_1_181 : zres 1 181 = some 40 := by decide +kernel
theorem rs_1_187 : zres 1 187 = some 42 := by decide +kernel
theorem rs_1_195 : zres 1 195 = some 23 := by decide +kernel
theorem rs_1_199 : zres 1 199 = some 44 := by decide +kernel
theorem rs_1_205 : zres 1 205 = some 45 := by decide +kernel
theorem rs_1_212 : zres 1 212 = some 19 := by decide +kernel
theorem rs_1_216 : zres 1 216 = some 111 := by decide +kernel
theorem rs_2_24 : zres 2 24 = some 1000 := by decide +kernel
theorem rs_2_52 : zres 2 52 = some 1002 := by decide +kernel
theorem rs_3_24 : zres 3 24 = some 1000 := by decide +kernel
theorem rs_4_31 : zres 4 31 = some 82 := by decide +kernel
theorem rs_4_35 : zres 4 35 = some 1000 := by decide +kernel
theorem rs_4_48 : zres 4 48 = some 30 := by decide +kernel
theorem rs_5_21 : zres 5 21 = some 1000 := by decide +kernel
theorem rs_5_31 : zres 5 31 = some 1001 := by decide +kernel
theorem rs_5_37 : zres 5 37 = some 31 := by decide +kernel
theorem rs_5_41 : zres 5 41 = some 32 := by decide +kernel
theorem rs_5_45 : zres 5 45 = some 33 := by decide +kernel
theorem rs_5_49 : zres 5 49 = some 34 := by decide +kernel
theorem rs_5_52 : zres 5 52 = some 28 := by decide +kernel
theorem rs_6_33 : zres 6 33 = some 1000 := by decide +kernel
theorem rs_6_43 : zres 6 43 = some 19 := by decide +kernel
theorem rs_6_47 : zres 6 47 = some 41 := by decide +kernel
theorem rs_6_51 : zres 6 51 = some 42 := by decide +kernel
theorem rs_6_55 : zres 6 55 = some 43 := by decide +kernel
theorem rs_6_64 : zres 6 64 = some 112 := by decide +kernel
theorem rs_6_68 : zres 6 68 = some 1001 := by decide +kernel
theorem rs_7_16 : zres 7 16 = some 82 := by decide +kernel
theorem rs_7_27 : zres 7 27 = some 30 := by decide +kernel
theorem rs_8_18 : zres 8 18 = some 1000 := by decide +kernel
theorem rs_8_28 : zres 8 28 = some 120 := by decide +kernel
theorem rs_8_32 : zres 8 32 = some 1001 := by decide +kernel
theorem rs_9_61 : zres 9 61 = some 54 := by decide +kernel
theorem rs_9_67 : zres 9 67 = some 68 := by decide +kernel
theorem rs_9_73 : zres 9 73 = some 55 := by decide +kernel
theorem rs_9_77 : zres 9 77 = some 56 := by decide +kernel
theorem rs_9_81 : zres 9 81 = some 64 := by decide +kernel
theorem rs_9_85 : zres 9 85 = some 65 := by decide +kernel
theorem rs_9_88 : zres 9 88 = some 66 := by decide +kernel
theorem rs_9_91 : zres 9 91 = some 67 := by decide +kernel
theorem rs_9_97 : zres 9 97 = some 57 := by decide +kernel
theorem rs_9_103 : zres 9 103 = some 59 := by decide +kernel
theorem rs_9_113 : zres 9 113 = some 70 := by decide +kernel
theorem rs_9_116 : zres 9 116 = some 13 := by decide +kernel
theorem rs_9_132 : zres 9 132 = some 71 := by decide +kernel
theorem rs_9_136 : zres 9 136 = some 76 := by decide +kernel
theorem rs_9_140 : zres 9 140 = some 78 := by decide +kernel
theorem rs_9_143 : zres 9 143 = some 80 := by decide +kernel
theorem rs_9_150 : zres 9 150 = some 77 := by decide +kernel
theorem rs_9_153 : zres 9 153 = some 74 := by decide +kernel
theorem rs_9_156 : zres 9 156 = some 79 := by decide +kernel
theorem rs_9_159 : zres 9 159 = some 75 := by decide +kernel
theorem rs_9_163 : zres 9 163 = some 72 := by decide +kernel
theorem rs_9_166 : zres 9 166 = some 73 := by decide +kernel
theorem rs_9_175 : zres 9 175 = some 86 := by decide +kernel
theorem rs_9_191 : zres 9 191 = some 87 := by decide +kernel
theorem rs_10_53 : zres 10 53 = some 149 := by decide +kernel
theorem rs_10_60 : zres 10 60 = some 147 := by decide +kernel
theorem rs_10_65 : zres 10 65 = some 152 := by decide +kernel
theorem rs_10_69 : zres 10 69 = some 151 := by decide +kernel
theorem rs_10_72 : zres 10 72 = some 153 := by decide +kernel
theorem rs_10_85 : zres 10 85 = some 57 := by decide +kernel
theorem rs_10_91 : zres 10 91 = some 59 := by decide +kernel
theorem rs_10_97 : zres 10 97 = some 162 := by decide +kernel
theorem rs_10_131 : zres 10 131 = some 163 := by decide +kernel
theorem rs_10_151 : zres 10 151 = some 161 := by decide +kernel
theorem rs_10_156 : zres 10 156 = some 164 := by decide +kernel
theorem rs_10_159 : zres 10 159 = some 165 := by decide +kernel
theorem rs_10_162 : zres 10 162 = some 158 := by decide +kernel
theorem rs_10_169 : zres 10 169 = some 159 := by decide +kernel
theorem rs_10_172 : zres 10 172 = some 160 := by decide +kernel
theorem rs_10_175 : zres 10 175 = some 166 := by decide +kernel
theorem rs_10_187 : zres 10 187 = some 170 := by decide +kernel
theorem rs_10_190 : zres 10 190 = some 157 := by decide +kernel
theorem rs_10_199 : zres 10 199 = some 172 := by decide +kernel
theorem rs_10_203 : zres 10 203 = some 174 := by decide +kernel
theorem rs_10_207 : zres 10 207 = some 173 := by decide +kernel
theorem rs_10_210 : zres 10 210 = some 176 := by decide +kernel
theorem rs_10_213 : zres 10 213 = some 177 := by decide +kernel
theorem rs_10_216 : zres 10 216 = some 178 := by decide +kernel
theorem rs_10_219 : zres 10 219 = some 175 := by decide +kernel
theorem rs_10_222 : zres 10 222 = some 179 := by decide +kernel
theorem rs_10_224 : zres 10 224 = some 171 := by decide +kernel
theorem rs_10_230 : zres 10 230 = some 169 := by decide +kernel
theorem rs_10_236 : zres 10 236 = some 182 := by decide +kernel
theorem rs_10_243 : zres 10 243 = some 181 := by decide +kernel
theorem rs_10_246 : zres 10 246 = some 185 := by decide +kernel
theorem rs_10_250 : zres 10 250 = some 186 := by decide +kernel
theorem rs_10_253 : zres 10 253 = some 184 := by decide +kernel
theorem rs_10_259 : zres 10 259 = some 189 := by decide +kernel
theorem rs_10_262 : zres 10 262 = some 191 := by decide +kernel
theorem rs_10_265 : zres 10 265 = some 190 := by decide +kernel
theorem rs_10_268 : zres 10 268 = some 188 := by decide +kernel
theorem rs_10_271 : zres 10 271 = some 168 := by decide +kernel
theorem rs_10_274 : zres 10 274 = some 180 := by decide +kernel
theorem rs_10_277 : zres 10 277 = some 183 := by decide +kernel
theorem rs_10_280 : zres 10 280 = some 187 := by decide +kernel
theorem rs_10_283 : zres 10 283 = some 193 := by decide +kernel
theorem rs_10_286 : zres 10 286 = some 194 := by decide +kernel
theorem rs_10_289 : zres 10 289 = some 195 := by decide +kernel
theorem rs_10_292 : zres 10 292 = some 196 := by decide +kernel
theorem rs_10_298 : zres 10 298 = some 167 := by decide +kernel
theorem rs_10_301 : zres 10 301 = some 192 := by decide +kernel
theorem rs_10_304 : zres 10 304 = some 212 := by decide +kernel
theorem rs_10_308 : zres 10 308 = some 211 := by decide +kernel
theorem rs_10_311 : zres 10 311 = some 209 := by decide +kernel
theorem rs_10_314 : zres 10 314 = some 210 := by decide +kernel
theorem rs_10_317 : zres 10 317 = some 202 := by decide +kernel
theorem rs_10_320 : zres 10 320 = some 213 := by decide +kernel
theorem rs_10_323 : zres 10 323 = some 208 := by decide +kernel
theorem rs_10_327 : zres 10 327 = some 207 := by decide +kernel
theorem rs_10_330 : zres 10 330 = some 206 := by decide +kernel
theorem rs_10_333 : zres 10 333 = some 214 := by decide +kernel
theorem rs_10_336 : zres 10 336 = some 215 := by decide +kernel
theorem rs_10_339 : zres 10 339 = some 216 := by decide +kernel
theorem rs_10_346 : zres 10 346 = some 200 := by decide +kernel
theorem rs_10_349 : zres 10 349 = some 219 := by decide +kernel
theorem rs_10_352 : zres 10 352 = some 220 := by decide +kernel
theorem rs_10_355 : zres 10 355 = some 221 := by decide +kernel
theorem rs_10_358 : zres 10 358 = some 225 := by decide +kernel
theorem rs_10_361 : zres 10 361 = some 226 := by decide +kernel
theorem rs_10_364 : zres 10 364 = some 217 := by decide +kernel
theorem rs_10_368 : zres 10 368 = some 222 := by decide +kernel
theorem rs_10_371 : zres 10 371 = some 227 := by decide +kernel
theorem rs_10_374 : zres 10 374 = some 205 := by decide +kernel
theorem rs_10_377 : zres 10 377 = some 218 := by decide +kernel
theorem rs_10_380 : zres 10 380 = some 204 := by decide +kernel
theorem rs_10_383 : zres 10 383 = some 224 := by decide +kernel
theorem rs_10_386 : zres 10 386 = some 223 := by decide +kernel
theorem rs_10_389 : zres 10 389 = some 234 := by decide +kernel
theorem rs_10_392 : zres 10 392 = some 238 := by decide +kernel
theorem rs_10_396 : zres 10 396 = some 244 := by decide +kernel
theorem rs_10_399 : zres 10 399 = some 248 := by decide +kernel
theorem rs_10_402 : zres 10 402 = some 247 := by decide +kernel
theorem rs_10_405 : zres 10 405 = some 249 := by decide +kernel
theorem rs_10_408 : zres 10 408 = some 253 := by decide +kernel
theorem rs_10_411 : zres 10 411 = some 252 := by decide +kernel
theorem rs_10_414 : zres 10 414 = some 251 := by decide +kernel
theorem rs_10_417 : zres 10 417 = some 257 := by decide +kernel
theorem rs_10_420 : zres 10 420 = some 264 := by decide +kernel
theorem rs_13_335 : zres 13 335 = some 58 := by decide +kernel
theorem rs_13_492 : zres 13 492 = some 60 := by decide +kernel
theorem rs_13_495 : zres 13 495 = some 61 := by decide +kernel
theorem rs_13_1059 : zres 13 1059 = some 63 := by decide +kernel
theorem rs_14_9 : zres 14 9 = some 62 := by decide +kernel
theorem st_9_95 : zstr 9 95 = some 0 := by decide +kernel
theorem st_10_95 : zstr 10 95 = some 8 := by decide +kernel
theorem st_10_101 : zstr 10 101 = some 9 := by decide +kernel
theorem st_10_103 : zstr 10 103 = some 10 := by decide +kernel
theorem st_10_105 : zstr 10 105 = some 11 := by decide +kernel
theorem st_10_107 : zstr 10 107 = some 12 := by decide +kernel
theorem st_10_109 : zstr 10 109 = some 13 := by decide +kernel
theorem st_10_111 : zstr 10 111 = some 14 := by decide +kernel
theorem st_10_113 : zstr 10 113 = some 15 := by decide +kernel
theorem st_10_115 : zstr 10 115 = some 16 := by decide +kernel
theorem st_10_117 : zstr 10 117 = some 1 := by decide +kernel
theorem st_10_119 : zstr 10 119 = some 2 := by decide +kernel
theorem st_10_121 : zstr 10 121 = some 3 := by decide +kernel
theorem st_10_123 : zstr 10 123 = some 4 := by decide +kernel
theorem st_10_125 : zstr 10 125 = some 5 := by decide +kernel
theorem st_10_127 : zstr 10 127 = some 6 := by decide +kernel
theorem st_10_129 : zstr 10 129 = some 7 := by decide +kernel
theorem st_10_134 : zstr 10 134 = some 18 := by decide +kernel
theorem st_10_136 : zstr 10 136 = some 19 := by decide +kernel
theorem st_10_138 : zstr 10 138 = some 20 := by decide +kernel
theorem st_10_140 : zstr 10 140 = some 21 := by decide +kernel
theorem st_10_142 : zstr 10 142 = some 22 := by decide +kernel
theorem st_10_144 : zstr 10 144 = some 23 := by decide +kernel
theorem st_10_146 : zstr 10 146 = some 24 := by decide +kernel
theorem st_10_154 : zstr 10 154 = some 17 := by decide +kernel
theorem kn_2_58 : zcon 2 58 = some (1664525 : Int32) := by decide +kernel
theorem kn_2_59 : zcon 2 59 = some (1013904223 : Int32) := by decide +kernel
theorem kn_10_63 : zcon 10 63 = some (1664525 : Int32) := by decide +kernel
theorem kn_10_64 : zcon 10 64 = some (1013904223 : Int32) := by decide +kernel
theorem kn_10_395 : zcon 10 395 = some (100000 : Int32) := by decide +kernel
theorem kn_12_265 : zcon 12 265 = some (1431655765 : Int32) := by decide +kernel
theorem kn_12_266 : zcon 12 266 = some (858993459 : Int32) := by decide +kernel
theorem kn_12_267 : zcon 12 267 = some (252645135 : Int32) := by decide +kernel
theorem ks_2_58 : zstr 2 58 = none := by decide +kernel
theorem ks_2_59 : zstr 2 59 = none := by decide +kernel
theorem ks_10_63 : zstr 10 63 = none := by decide +kernel
theorem ks_10_64 : zstr 10 64 = none := by decide +kernel
theorem ci_0 : Int32.ofInt (0) = (0 : Int32) := by decide
theorem ci_1 : Int32.ofInt (1) = (1 : Int32) := by decide
theorem ci_2 : Int32.ofInt (2) = (2 : Int32) := by decide
theorem ci_3 : Int32.ofInt (3) = (3 : Int32) := by decide
theorem ci_4 : Int32.ofInt (4) = (4 : Int32) := by decide
theorem ci_5 : Int32.ofInt (5) = (5 : Int32) := by decide
theorem ci_m1 : Int32.ofInt (-1) = (-1 : Int32) := by decide
theorem ci_m8 : Int32.ofInt (-8) = (-8 : Int32) := by decide
theorem cb_10 : (Int8.ofInt (10)).toInt32 = (10 : Int32) := by decide
theorem cb_100 : (Int8.ofInt (100)).toInt32 = (100 : Int32) := by decide
theorem cb_11 : (Int8.ofInt (11)).toInt32 = (11 : Int32) := by decide
theorem cb_12 : (Int8.ofInt (12)).toInt32 = (12 : Int32) := by decide
theorem cb_122 : (Int8.ofInt (122)).toInt32 = (122 : Int32) := by decide
theorem cb_13 : (Int8.ofInt (13)).toInt32 = (13 : Int32) := by decide
theorem cb_14 : (Int8.ofInt (14)).toInt32 = (14 : Int32) := by decide
theorem cb_16 : (Int8.ofInt (16)).toInt32 = (16 : Int32) := by decide
theorem cb_17 : (Int8.ofInt (17)).toInt32 = (17 : Int32) := by decide
theorem cb_20 : (Int8.ofInt (20)).toInt32 = (20 : Int32) := by decide
theorem cb_21 : (Int8.ofInt (21)).toInt32 = (21 : Int32) := by decide
theorem cb_22 : (Int8.ofInt (22)).toInt32 = (22 : Int32) := by decide
theorem cb_23 : (Int8.ofInt (23)).toInt32 = (23 : Int32) := by decide
theorem cb_24 : (Int8.ofInt (24)).toInt32 = (24 : Int32) := by decide
theorem cb_25 : (Int8.ofInt (25)).toInt32 = (25 : Int32) := by decide
theorem cb_26 : (Int8.ofInt (26)).toInt32 = (26 : Int32) := by decide
theorem cb_27 : (Int8.ofInt (27)).toInt32 = (27 : Int32) := by decide
theorem cb_28 : (Int8.ofInt (28)).toInt32 = (28 : Int32) := by decide
theorem cb_29 : (Int8.ofInt (29)).toInt32 = (29 : Int32) := by decide
theorem cb_30 : (Int8.ofInt (30)).toInt32 = (30 : Int32) := by decide
theorem cb_31 : (Int8.ofInt (31)).toInt32 = (31 : Int32) := by decide
theorem cb_32 : (Int8.ofInt (32)).toInt32 = (32 : Int32) := by decide
theorem cb_37 : (Int8.ofInt (37)).toInt32 = (37 : Int32) := by decide
theorem cb_40 : (Int8.ofInt (40)).toInt32 = (40 : Int32) := by decide
theorem cb_41 : (Int8.ofInt (41)).toInt32 = (41 : Int32) := by decide
theorem cb_42 : (Int8.ofInt (42)).toInt32 = (42 : Int32) := by decide
theorem cb_43 : (Int8.ofInt (43)).toInt32 = (43 : Int32) := by decide
theorem cb_44 : (Int8.ofInt (44)).toInt32 = (44 : Int32) := by decide
theorem cb_45 : (Int8.ofInt (45)).toInt32 = (45 : Int32) := by decide
theorem cb_46 : (Int8.ofInt (46)).toInt32 = (46 : Int32) := by decide
theorem cb_47 : (Int8.ofInt (47)).toInt32 = (47 : Int32) := by decide
theorem cb_48 : (Int8.ofInt (48)).toInt32 = (48 : Int32) := by decide
theorem cb_49 : (Int8.ofInt (49)).toInt32 = (49 : Int32) := by decide
theorem cb_50 : (Int8.ofInt (50)).toInt32 = (50 : Int32) := by decide
theorem cb_51 : (Int8.ofInt (51)).toInt32 = (51 : Int32) := by decide
theorem cb_52 : (Int8.ofInt (52)).toInt32 = (52 : Int32) := by decide
theorem cb_53 : (Int8.ofInt (53)).toInt32 = (53 : Int32) := by decide
theorem cb_54 : (Int8.ofInt (54)).toInt32 = (54 : Int32) := by decide
theorem cb_55 : (Int8.ofInt (55)).toInt32 = (55 : Int32) := by decide
theorem cb_56 : (Int8.ofInt (56)).toInt32 = (56 : Int32) := by decide
theorem cb_57 : (Int8.ofInt (57)).toInt32 = (57 : Int32) := by decide
theorem cb_58 : (Int8.ofInt (58)).toInt32 = (58 : Int32) := by decide
theorem cb_59 : (Int8.ofInt (59)).toInt32 = (59 : Int32) := by decide
theorem cb_6 : (Int8.ofInt (6)).toInt32 = (6 : Int32) := by decide
theorem cb_60 : (Int8.ofInt (60)).toInt32 = (60 : Int32) := by decide
theorem cb_61 : (Int8.ofInt (61)).toInt32 = (61 : Int32) := by decide
theorem cb_62 : (Int8.ofInt (62)).toInt32 = (62 : Int32) := by decide
theorem cb_63 : (Int8.ofInt (63)).toInt32 = (63 : Int32) := by decide
theorem cb_64 : (Int8.ofInt (64)).toInt32 = (64 : Int32) := by decide
theorem cb_65 : (Int8.ofInt (65)).toInt32 = (65 : Int32) := by decide
theorem cb_7 : (Int8.ofInt (7)).toInt32 = (7 : Int32) := by decide
theorem cb_70 : (Int8.ofInt (70)).toInt32 = (70 : Int32) := by decide
theorem cb_8 : (Int8.ofInt (8)).toInt32 = (8 : Int32) := by decide
theorem cb_80 : (Int8.ofInt (80)).toInt32 = (80 : Int32) := by decide
theorem cb_9 : (Int8.ofInt (9)).toInt32 = (9 : Int32) := by decide
theorem cb_90 : (Int8.ofInt (90)).toInt32 = (90 : Int32) := by decide
theorem cb_97 : (Int8.ofInt (97)).toInt32 = (97 : Int32) := by decide
theorem cb_99 : (Int8.ofInt (99)).toInt32 = (99 : Int32) := by decide
theorem cb_m2 : (Int8.ofInt (-2)).toInt32 = (-2 : Int32) := by decide
theorem cb_m3 : (Int8.ofInt (-3)).toInt32 = (-3 : Int32) := by decide
theorem cs_1000 : (Int16.ofInt (1000)).toInt32 = (1000 : Int32) := by decide
theorem cs_1024 : (Int16.ofInt (1024)).toInt32 = (1024 : Int32) := by decide
theorem cs_1178 : (Int16.ofInt (1178)).toInt32 = (1178 : Int32) := by decide
theorem cs_1194 : (Int16.ofInt (1194)).toInt32 = (1194 : Int32) := by decide
theorem cs_1210 : (Int16.ofInt (1210)).toInt32 = (1210 : Int32) := by decide
theorem cs_1226 : (Int16.ofInt (1226)).toInt32 = (1226 : Int32) := by decide
theorem cs_1244 : (Int16.ofInt (1244)).toInt32 = (1244 : Int32) := by decide
theorem cs_140 : (Int16.ofInt (140)).toInt32 = (140 : Int32) := by decide
theorem cs_141 : (Int16.ofInt (141)).toInt32 = (141 : Int32) := by decide
theorem cs_142 : (Int16.ofInt (142)).toInt32 = (142 : Int32) := by decide
theorem cs_143 : (Int16.ofInt (143)).toInt32 = (143 : Int32) := by decide
theorem cs_145 : (Int16.ofInt (145)).toInt32 = (145 : Int32) := by decide
theorem cs_147 : (Int16.ofInt (147)).toInt32 = (147 : Int32) := by decide
theorem cs_150 : (Int16.ofInt (150)).toInt32 = (150 : Int32) := by decide
theorem cs_159 : (Int16.ofInt (159)).toInt32 = (159 : Int32) := by decide
theorem cs_160 : (Int16.ofInt (160)).toInt32 = (160 : Int32) := by decide
theorem cs_161 : (Int16.ofInt (161)).toInt32 = (161 : Int32) := by decide
theorem cs_162 : (Int16.ofInt (162)).toInt32 = (162 : Int32) := by decide
theorem cs_200 : (Int16.ofInt (200)).toInt32 = (200 : Int32) := by decide
theorem cs_2064 : (Int16.ofInt (2064)).toInt32 = (2064 : Int32) := by decide
theorem cs_240 : (Int16.ofInt (240)).toInt32 = (240 : Int32) := by decide
theorem cs_255 : (Int16.ofInt (255)).toInt32 = (255 : Int32) := by decide
theorem cs_256 : (Int16.ofInt (256)).toInt32 = (256 : Int32) := by decide
theorem cs_257 : (Int16.ofInt (257)).toInt32 = (257 : Int32) := by decide
theorem cs_258 : (Int16.ofInt (258)).toInt32 = (258 : Int32) := by decide
theorem cs_259 : (Int16.ofInt (259)).toInt32 = (259 : Int32) := by decide
theorem cs_260 : (Int16.ofInt (260)).toInt32 = (260 : Int32) := by decide
theorem cs_261 : (Int16.ofInt (261)).toInt32 = (261 : Int32) := by decide
theorem cs_262 : (Int16.ofInt (262)).toInt32 = (262 : Int32) := by decide
theorem cs_263 : (Int16.ofInt (263)).toInt32 = (263 : Int32) := by decide
theorem cs_271 : (Int16.ofInt (271)).toInt32 = (271 : Int32) := by decide
theorem cs_272 : (Int16.ofInt (272)).toInt32 = (272 : Int32) := by decide
theorem cs_273 : (Int16.ofInt (273)).toInt32 = (273 : Int32) := by decide
theorem cs_274 : (Int16.ofInt (274)).toInt32 = (274 : Int32) := by decide
theorem cs_275 : (Int16.ofInt (275)).toInt32 = (275 : Int32) := by decide
theorem cs_276 : (Int16.ofInt (276)).toInt32 = (276 : Int32) := by decide
theorem cs_277 : (Int16.ofInt (277)).toInt32 = (277 : Int32) := by decide
theorem cs_278 : (Int16.ofInt (278)).toInt32 = (278 : Int32) := by decide
theorem cs_279 : (Int16.ofInt (279)).toInt32 = (279 : Int32) := by decide
theorem cs_300 : (Int16.ofInt (300)).toInt32 = (300 : Int32) := by decide
theorem cs_301 : (Int16.ofInt (301)).toInt32 = (301 : Int32) := by decide
theorem cs_364 : (Int16.ofInt (364)).toInt32 = (364 : Int32) := by decide
theorem cs_365 : (Int16.ofInt (365)).toInt32 = (365 : Int32) := by decide
theorem cs_400 : (Int16.ofInt (400)).toInt32 = (400 : Int32) := by decide
theorem cs_4096 : (Int16.ofInt (4096)).toInt32 = (4096 : Int32) := by decide
theorem cs_562 : (Int16.ofInt (562)).toInt32 = (562 : Int32) := by decide
theorem cs_578 : (Int16.ofInt (578)).toInt32 = (578 : Int32) := by decide
theorem cs_820 : (Int16.ofInt (820)).toInt32 = (820 : Int32) := by decide
theorem cs_999 : (Int16.ofInt (999)).toInt32 = (999 : Int32) := by decide
theorem cs_9999 : (Int16.ofInt (9999)).toInt32 = (9999 : Int32) := by decide
theorem zin_0_9 : zin 0 9 = true := by decide
theorem zin_0_10 : zin 0 10 = true := by decide
theorem zin_0_420 : zin 0 420 = true := by decide
theorem zin_0_2064 : zin 0 2064 = true := by decide
theorem zin_1_9 : zin 1 9 = true := by decide
theorem zin_1_10 : zin 1 10 = true := by decide
theorem zin_1_2064 : zin 1 2064 = true := by decide
theorem zin_2_9 : zin 2 9 = true := by decide
theorem zin_2_10 : zin 2 10 = true := by decide
theorem zin_2_2064 : zin 2 2064 = true := by decide
theorem zin_3_9 : zin 3 9 = true := by decide
theorem zin_3_10 : zin 3 10 = true := by decide
theorem zin_3_48 : zin 3 48 = true := by decide
theorem zin_3_2064 : zin 3 2064 = true := by decide
theorem zin_4_9 : zin 4 9 = true := by decide
theorem zin_4_10 : zin 4 10 = true := by decide
theorem zin_4_2064 : zin 4 2064 = true := by decide
theorem zin_5_9 : zin 5 9 = true := by decide
theorem zin_5_10 : zin 5 10 = true := by decide
theorem zin_5_2064 : zin 5 2064 = true := by decide
theorem zin_6_9 : zin 6 9 = true := by decide
theorem zin_6_10 : zin 6 10 = true := by decide
theorem zin_6_2064 : zin 6 2064 = true := by decide
theorem zin_7_9 : zin 7 9 = true := by decide
theorem zin_7_10 : zin 7 10 = true := by decide
theorem zin_8_9 : zin 8 9 = true := by decide
theorem zin_8_10 : zin 8 10 = true := by decide
theorem zin_9_10 : zin 9 10 = true := by decide
theorem zin_48_2064 : zin 48 2064 = true := by decide
theorem zin_49_2064 : zin 49 2064 = true := by decide
theorem zin_50_2064 : zin 50 2064 = true := by decide
theorem zin_51_2064 : zin 51 2064 = true := by decide
theorem zin_52_2064 : zin 52 2064 = true := by decide
theorem zin_53_2064 : zin 53 2064 = true := by decide
theorem zin_54_2064 : zin 54 2064 = true := by decide
theorem zin_55_2064 : zin 55 2064 = true := by decide
theorem zin_56_2064 : zin 56 2064 = true := by decide
theorem zin_57_2064 : zin 57 2064 = true := by decide
theorem zin_58_2064 : zin 58 2064 = true := by decide
theorem zi_0 : zi 0 = 0 := by decide
theorem zi_1 : zi 1 = 1 := by decide
theorem zi_2 : zi 2 = 2 := by decide
theorem zi_3 : zi 3 = 3 := by decide
theorem zi_4 : zi 4 = 4 := by decide
theorem zi_5 : zi 5 = 5 := by decide
theorem zi_6 : zi 6 = 6 := by decide
theorem zi_7 : zi 7 = 7 := by decide
theorem zi_8 : zi 8 = 8 := by decide
theorem zi_9 : zi 9 = 9 := by decide
theorem zi_48 : zi 48 = 48 := by decide
theorem zi_49 : zi 49 = 49 := by decide
theorem zi_50 : zi 50 = 50 := by decide
theorem zi_51 : zi 51 = 51 := by decide
theorem zi_52 : zi 52 = 52 := by decide
theorem zi_53 : zi 53 = 53 := by decide
theorem zi_54 : zi 54 = 54 := by decide
theorem zi_55 : zi 55 = 55 := by decide
theorem zi_56 : zi 56 = 56 := by decide
theorem zi_57 : zi 57 = 57 := by decide
theorem zi_58 : zi 58 = 58 := by decide
theorem zsh_0 : 0 < zSB.length := by decide
theorem zsh_1 : 1 < zSB.length := by decide
theorem zsh_2 : 2 < zSB.length := by decide
theorem zsh_3 : 3 < zSB.length := by decide
theorem zsh_4 : 4 < zSB.length := by decide
theorem zsh_5 : 5 < zSB.length := by decide
theorem zsh_6 : 6 < zSB.length := by decide
theorem zsh_7 : 7 < zSB.length := by decide
theorem zsh_8 : 8 < zSB.length := by decide
theorem zsh_9 : 9 < zSB.length := by decide
theorem zsh_10 : 10 < zSB.length := by decide
theorem zsh_11 : 11 < zSB.length := by decide
theorem zsh_12 : 12 < zSB.length := by decide
theorem zsh_13 : 13 < zSB.length := by decide
theorem zsh_14 : 14 < zSB.length := by decide
theorem zsh_15 : 15 < zSB.length := by decide
theorem zsh_16 : 16 < zSB.length := by decide
theorem zsh_17 : 17 < zSB.length := by decide
theorem zsh_18 : 18 < zSB.length := by decide
theorem zsh_19 : 19 < zSB.length := by decide
theorem zsh_20 : 20 < zSB.length := by decide
theorem zsh_21 : 21 < zSB.length := by decide
theorem zsh_22 : 22 < zSB.length := by decide
theorem zsh_23 : 23 < zSB.length := by decide
theorem zsh_24 : 24 < zSB.length := by decide
theorem zX_jn {α γ : Type} {q : ZQ} {d y pc : Nat} {ls : List Slot} {st : List Value} {M : ZI} {E : α → Option Value → ZI → Prop} {g : γ} {f : γ → Option α} (P : γ → Prop) (hg : P g) (h : ∀ g, P g → zX q d y pc ls st M (f g) E) : zX q d y pc ls st M (zlet g f) E := h g hg
theorem zX_lsh {α : Type} {q : ZQ} {d y pc p : Nat} {ls : List Slot} {st : List Value} {M : ZI} {o : Option α} {E : α → Option Value → ZI → Prop} {d0 : Int} {ps : Array (Int × Int)} {len : Nat} {x c : Int32} {off n : Int} (hd : zdec y pc = some (.lookupswitch d0 ps, len)) (hx : x = c) (hc : c.toInt = n) (hs : ((ps.toList.zip (ps.toList.drop 1)).all (fun (a, next) => a.1 < next.1)) = true) (ho : Op.lookupswitch.offset ps.toList d0 n = off) (hp : (pc : Int) + off = (p : Int)) (h : zX q d y p ls st M o E) : zX q d y pc ls (.int x :: st) M o E := by
  subst hx
  refine zX_step hd ?_ h
  simp only [zstep]
  rw [if_pos hs, hc, ho]
  simp [zto, hp]
theorem zX_lsd {α : Type} {q : ZQ} {d y pc p : Nat} {ls : List Slot} {st : List Value} {M : ZI} {o : Option α} {E : α → Option Value → ZI → Prop} {d0 : Int} {ps : Array (Int × Int)} {len : Nat} {x : Int32} (hd : zdec y pc = some (.lookupswitch d0 ps, len)) (hs : ((ps.toList.zip (ps.toList.drop 1)).all (fun (a, next) => a.1 < next.1)) = true) (ho : Op.lookupswitch.offset ps.toList d0 x.toInt = d0) (hp : (pc : Int) + d0 = (p : Int)) (h : zX q d y p ls st M o E) : zX q d y pc ls (.int x :: st) M o E := by
  refine zX_step hd ?_ h
  simp only [zstep]
  rw [if_pos hs, ho]
  simp [zto, hp]
def zsn (s : Nat) : Nat := (zSB.getD s []).length
def zsln (s : Nat) : Int32 := zshr (Int32.ofNat (zsn s)) 0
def zch (s : Nat) (i : Int32) : Int32 := (((zSB.getD s []).getD (zi i) 0 &&& 255).toUInt32 % 65536).toInt32
