-- ===== LAW: its loop over the script =====
theorem rs_11_13 : zres 11 13 = some 10 := by decide +kernel
theorem rs_11_17 : zres 11 17 = some 146 := by decide +kernel
theorem rs_11_18 : zres 11 18 = some 12 := by decide +kernel
theorem rs_11_22 : zres 11 22 = some 148 := by decide +kernel
theorem rs_11_23 : zres 11 23 = some 15 := by decide +kernel
theorem rs_11_27 : zres 11 27 = some 150 := by decide +kernel
theorem rs_11_28 : zres 11 28 = some 18 := by decide +kernel
theorem rs_11_32 : zres 11 32 = some 199 := by decide +kernel
theorem rs_11_33 : zres 11 33 = some 22 := by decide +kernel
theorem rs_11_36 : zres 11 36 = some 201 := by decide +kernel
theorem rs_11_37 : zres 11 37 = some 24 := by decide +kernel
theorem rs_11_40 : zres 11 40 = some 203 := by decide +kernel
theorem rs_11_41 : zres 11 41 = some 48 := by decide +kernel
theorem rs_11_45 : zres 11 45 = some 154 := by decide +kernel
theorem rs_11_46 : zres 11 46 = some 51 := by decide +kernel
theorem rs_11_50 : zres 11 50 = some 155 := by decide +kernel
theorem rs_11_51 : zres 11 51 = some 52 := by decide +kernel
theorem rs_11_54 : zres 11 54 = some 156 := by decide +kernel
theorem rs_11_55 : zres 11 55 = some 91 := by decide +kernel
theorem rs_11_58 : zres 11 58 = some 197 := by decide +kernel
theorem rs_11_59 : zres 11 59 = some 92 := by decide +kernel
theorem rs_11_62 : zres 11 62 = some 229 := by decide +kernel
theorem rs_11_63 : zres 11 63 = some 94 := by decide +kernel
theorem rs_11_67 : zres 11 67 = some 230 := by decide +kernel
theorem rs_11_68 : zres 11 68 = some 95 := by decide +kernel
theorem rs_11_71 : zres 11 71 = some 231 := by decide +kernel
theorem rs_11_72 : zres 11 72 = some 96 := by decide +kernel
theorem rs_11_75 : zres 11 75 = some 232 := by decide +kernel
theorem rs_11_76 : zres 11 76 = some 97 := by decide +kernel
theorem rs_11_79 : zres 11 79 = some 233 := by decide +kernel
theorem rs_11_80 : zres 11 80 = some 99 := by decide +kernel
theorem rs_11_84 : zres 11 84 = some 228 := by decide +kernel
theorem rs_11_85 : zres 11 85 = some 100 := by decide +kernel
theorem rs_11_88 : zres 11 88 = some 235 := by decide +kernel
theorem rs_11_89 : zres 11 89 = some 101 := by decide +kernel
theorem rs_11_92 : zres 11 92 = some 241 := by decide +kernel
theorem rs_11_93 : zres 11 93 = some 102 := by decide +kernel
theorem rs_11_96 : zres 11 96 = some 242 := by decide +kernel
theorem rs_11_97 : zres 11 97 = some 104 := by decide +kernel
theorem rs_11_100 : zres 11 100 = some 245 := by decide +kernel
theorem rs_11_101 : zres 11 101 = some 105 := by decide +kernel
theorem rs_11_104 : zres 11 104 = some 246 := by decide +kernel
theorem rs_11_105 : zres 11 105 = some 108 := by decide +kernel
theorem rs_11_109 : zres 11 109 = some 250 := by decide +kernel
theorem rs_11_110 : zres 11 110 = some 109 := by decide +kernel
theorem rs_11_113 : zres 11 113 = some 251 := by decide +kernel
theorem rs_11_114 : zres 11 114 = some 113 := by decide +kernel
theorem rs_11_117 : zres 11 117 = some 255 := by decide +kernel
theorem rs_11_118 : zres 11 118 = some 115 := by decide +kernel
theorem rs_11_121 : zres 11 121 = some 256 := by decide +kernel
theorem rs_11_122 : zres 11 122 = some 116 := by decide +kernel
theorem rs_11_125 : zres 11 125 = some 258 := by decide +kernel
theorem rs_11_126 : zres 11 126 = some 118 := by decide +kernel
theorem rs_11_129 : zres 11 129 = some 259 := by decide +kernel
theorem rs_11_130 : zres 11 130 = some 122 := by decide +kernel
theorem rs_11_133 : zres 11 133 = some 260 := by decide +kernel
theorem rs_11_134 : zres 11 134 = some 123 := by decide +kernel
theorem rs_11_138 : zres 11 138 = some 261 := by decide +kernel
theorem rs_11_139 : zres 11 139 = some 124 := by decide +kernel
theorem rs_11_143 : zres 11 143 = some 237 := by decide +kernel
theorem rs_11_144 : zres 11 144 = some 126 := by decide +kernel
theorem rs_11_147 : zres 11 147 = some 239 := by decide +kernel
theorem rs_11_148 : zres 11 148 = some 127 := by decide +kernel
theorem rs_11_151 : zres 11 151 = some 243 := by decide +kernel
theorem rs_11_152 : zres 11 152 = some 129 := by decide +kernel
theorem rs_11_155 : zres 11 155 = some 254 := by decide +kernel
theorem rs_11_156 : zres 11 156 = some 130 := by decide +kernel
theorem rs_11_159 : zres 11 159 = some 236 := by decide +kernel
theorem rs_11_160 : zres 11 160 = some 131 := by decide +kernel
theorem rs_11_163 : zres 11 163 = some 240 := by decide +kernel
theorem rs_11_164 : zres 11 164 = some 134 := by decide +kernel
theorem rs_11_167 : zres 11 167 = some 262 := by decide +kernel
theorem rs_11_168 : zres 11 168 = some 136 := by decide +kernel
theorem rs_11_171 : zres 11 171 = some 263 := by decide +kernel
theorem rs_11_172 : zres 11 172 = some 138 := by decide +kernel
theorem rs_11_176 : zres 11 176 = some 198 := by decide +kernel
theorem rs_11_177 : zres 11 177 = some 139 := by decide +kernel
theorem rs_11_181 : zres 11 181 = some 265 := by decide +kernel
theorem rs_11_182 : zres 11 182 = some 143 := by decide +kernel
theorem rs_11_185 : zres 11 185 = some 266 := by decide +kernel
theorem rt_267 : zret 267 = some .boolean := rfl
theorem ci_6 : Int32.ofInt (6) = (6 : Int32) := by decide
def f267_l18 (q : ZQ) : Nat → Int32 → ZI → Option (Int32 × ZI)
  | 0, _, _ => none
  | n + 1, x1, M2 =>
  (if ((Int32.ofNat q.1.1) - (6 : Int32)) < x1 then some ((1 : Int32), M2) else if zin x1 q.1.1 = true then (if ((q.1.2 (zi x1)) &&& (63 : Int32)) = (0 : Int32) then if zin (x1 + (1 : Int32)) q.1.1 = true then (f10_state (q.1.2 (zi (x1 + (1 : Int32)))) M2).bind fun (v3, M4) => if zin (x1 + (1 : Int32)) q.1.1 = true then (f146_state (q.1.2 (zi (x1 + (1 : Int32)))) M4).bind fun (v5, M6) => (if v3 = v5 then f267_l18 q n (x1 + (6 : Int32)) M6 else some ((0 : Int32), M6)) else none else none else if ((q.1.2 (zi x1)) &&& (63 : Int32)) = (1 : Int32) then if zin (x1 + (1 : Int32)) q.1.1 = true then if zin (x1 + (2 : Int32)) q.1.1 = true then (f12_person (q.1.2 (zi (x1 + (1 : Int32)))) (q.1.2 (zi (x1 + (2 : Int32)))) M2).bind fun (v7, M8) => if zin (x1 + (1 : Int32)) q.1.1 = true then if zin (x1 + (2 : Int32)) q.1.1 = true then (f148_person (q.1.2 (zi (x1 + (1 : Int32)))) (q.1.2 (zi (x1 + (2 : Int32)))) M8).bind fun (v9, M10) => (if v7 = v9 then f267_l18 q n (x1 + (6 : Int32)) M10 else some ((0 : Int32), M10)) else none else none else none else none else if ((q.1.2 (zi x1)) &&& (63 : Int32)) = (2 : Int32) then if zin (x1 + (1 : Int32)) q.1.1 = true then if zin (x1 + (2 : Int32)) q.1.1 = true then if zin (x1 + (3 : Int32)) q.1.1 = true then (f15_set (q.1.2 (zi (x1 + (1 : Int32)))) (q.1.2 (zi (x1 + (2 : Int32)))) (q.1.2 (zi (x1 + (3 : Int32)))) M2).bind fun (v11, M12) => if zin (x1 + (1 : Int32)) q.1.1 = true then if zin (x1 + (2 : Int32)) q.1.1 = true then if zin (x1 + (3 : Int32)) q.1.1 = true then (f150_set (q.1.2 (zi (x1 + (1 : Int32)))) (q.1.2 (zi (x1 + (2 : Int32)))) (q.1.2 (zi (x1 + (3 : Int32)))) M12).bind fun (v13, M14) => (if v11 = v13 then f267_l18 q n (x1 + (6 : Int32)) M14 else some ((0 : Int32), M14)) else none else none else none else none else none else none else if ((q.1.2 (zi x1)) &&& (63 : Int32)) = (3 : Int32) then if zin (x1 + (1 : Int32)) q.1.1 = true then if zin (x1 + (2 : Int32)) q.1.1 = true then if zin (x1 + (3 : Int32)) q.1.1 = true then ((if (q.1.2 (zi (x1 + (3 : Int32)))) = 0 then some (0 : Int32) else some (1 : Int32)) : Option (Int32)).bind fun v15 =>
  (f18_tie (q.1.2 (zi (x1 + (1 : Int32)))) (q.1.2 (zi (x1 + (2 : Int32)))) v15 M2).bind fun (v16, M17) => if zin (x1 + (1 : Int32)) q.1.1 = true then if zin (x1 + (2 : Int32)) q.1.1 = true then if zin (x1 + (3 : Int32)) q.1.1 = true then ((if (q.1.2 (zi (x1 + (3 : Int32)))) = 0 then some (0 : Int32) else some (1 : Int32)) : Option (Int32)).bind fun v18 =>
  (f199_tie (q.1.2 (zi (x1 + (1 : Int32)))) (q.1.2 (zi (x1 + (2 : Int32)))) v18 M17).bind fun (v19, M20) => (if v16 = v19 then f267_l18 q n (x1 + (6 : Int32)) M20 else some ((0 : Int32), M20)) else none else none else none else none else none else none else if ((q.1.2 (zi x1)) &&& (63 : Int32)) = (4 : Int32) then if zin (x1 + (1 : Int32)) q.1.1 = true then (f22_sit (q.1.2 (zi (x1 + (1 : Int32)))) M2).bind fun (v21, M22) => if zin (x1 + (1 : Int32)) q.1.1 = true then (f201_sit (q.1.2 (zi (x1 + (1 : Int32)))) M22).bind fun (v23, M24) => (if v21 = v23 then f267_l18 q n (x1 + (6 : Int32)) M24 else some ((0 : Int32), M24)) else none else none else if ((q.1.2 (zi x1)) &&& (63 : Int32)) = (5 : Int32) then if zin (x1 + (1 : Int32)) q.1.1 = true then (f24_years (q.1.2 (zi (x1 + (1 : Int32)))) M2).bind fun (v25, M26) => if zin (x1 + (1 : Int32)) q.1.1 = true then (f203_years (q.1.2 (zi (x1 + (1 : Int32)))) M26).bind fun (v27, M28) => (if v25 = v27 then f267_l18 q n (x1 + (6 : Int32)) M28 else some ((0 : Int32), M28)) else none else none else if ((q.1.2 (zi x1)) &&& (63 : Int32)) = (6 : Int32) then if zin (x1 + (1 : Int32)) q.1.1 = true then if zin (x1 + (2 : Int32)) q.1.1 = true then if zin (x1 + (3 : Int32)) q.1.1 = true then if zin (x1 + (4 : Int32)) q.1.1 = true then if zin (x1 + (5 : Int32)) q.1.1 = true then (f48_feed (q.1.2 (zi (x1 + (1 : Int32)))) (q.1.2 (zi (x1 + (2 : Int32)))) (q.1.2 (zi (x1 + (3 : Int32)))) (q.1.2 (zi (x1 + (4 : Int32)))) (q.1.2 (zi (x1 + (5 : Int32)))) M2).bind fun (v29, M30) => if zin (x1 + (1 : Int32)) q.1.1 = true then if zin (x1 + (2 : Int32)) q.1.1 = true then if zin (x1 + (3 : Int32)) q.1.1 = true then if zin (x1 + (4 : Int32)) q.1.1 = true then if zin (x1 + (5 : Int32)) q.1.1 = true then (f154_feed (q.1.2 (zi (x1 + (1 : Int32)))) (q.1.2 (zi (x1 + (2 : Int32)))) (q.1.2 (zi (x1 + (3 : Int32)))) (q.1.2 (zi (x1 + (4 : Int32)))) (q.1.2 (zi (x1 + (5 : Int32)))) M30).bind fun (v31, M32) => (if v29 = v31 then f267_l18 q n (x1 + (6 : Int32)) M32 else some ((0 : Int32), M32)) else none else none else none else none else none else none else none else none else none else none else if ((q.1.2 (zi x1)) &&& (63 : Int32)) = (7 : Int32) then if zin (x1 + (1 : Int32)) q.1.1 = true then (f51_end (q.1.2 (zi (x1 + (1 : Int32)))) M2).bind fun (v33, M34) => if zin (x1 + (1 : Int32)) q.1.1 = true then (f155_end (q.1.2 (zi (x1 + (1 : Int32)))) M34).bind fun (v35, M36) => (if v33 = v35 then f267_l18 q n (x1 + (6 : Int32)) M36 else some ((0 : Int32), M36)) else none else none else if ((q.1.2 (zi x1)) &&& (63 : Int32)) = (8 : Int32) then if zin (x1 + (1 : Int32)) q.1.1 = true then (f52_text (q.1.2 (zi (x1 + (1 : Int32)))) M2).bind fun (v37, M38) => if zin (x1 + (1 : Int32)) q.1.1 = true then (f156_text (q.1.2 (zi (x1 + (1 : Int32)))) M38).bind fun (v39, M40) => (if v37 = v39 then f267_l18 q n (x1 + (6 : Int32)) M40 else some ((0 : Int32), M40)) else none else none else if ((q.1.2 (zi x1)) &&& (63 : Int32)) = (9 : Int32) then if zin (x1 + (1 : Int32)) q.1.1 = true then (f91_fault (q.1.2 (zi (x1 + (1 : Int32)))) M2).bind fun v41 => if zin (x1 + (1 : Int32)) q.1.1 = true then (f197_fault (q.1.2 (zi (x1 + (1 : Int32)))) M2).bind fun v42 => (if v41 = v42 then f267_l18 q n (x1 + (6 : Int32)) M2 else some ((0 : Int32), M2)) else none else none else if ((q.1.2 (zi x1)) &&& (63 : Int32)) = (10 : Int32) then if zin (x1 + (1 : Int32)) q.1.1 = true then if zin (x1 + (2 : Int32)) q.1.1 = true then (f92_of (q.1.2 (zi (x1 + (1 : Int32)))) (q.1.2 (zi (x1 + (2 : Int32)))) M2).bind fun (v43, M44) => if zin (x1 + (1 : Int32)) q.1.1 = true then if zin (x1 + (2 : Int32)) q.1.1 = true then (f229_of (q.1.2 (zi (x1 + (1 : Int32)))) (q.1.2 (zi (x1 + (2 : Int32)))) M44).bind fun (v45, M46) => (if v43 = v45 then f267_l18 q n (x1 + (6 : Int32)) M46 else some ((0 : Int32), M46)) else none else none else none else none else if ((q.1.2 (zi x1)) &&& (63 : Int32)) = (11 : Int32) then if zin (x1 + (1 : Int32)) q.1.1 = true then if zin (x1 + (2 : Int32)) q.1.1 = true then if zin (x1 + (3 : Int32)) q.1.1 = true then ((if (q.1.2 (zi (x1 + (3 : Int32)))) = 0 then some (0 : Int32) else some (1 : Int32)) : Option (Int32)).bind fun v47 =>
  (f94_after (q.1.2 (zi (x1 + (1 : Int32)))) (q.1.2 (zi (x1 + (2 : Int32)))) v47 M2).bind fun (v48, M49) => if zin (x1 + (1 : Int32)) q.1.1 = true then if zin (x1 + (2 : Int32)) q.1.1 = true then if zin (x1 + (3 : Int32)) q.1.1 = true then ((if (q.1.2 (zi (x1 + (3 : Int32)))) = 0 then some (0 : Int32) else some (1 : Int32)) : Option (Int32)).bind fun v50 =>
  (f230_after (q.1.2 (zi (x1 + (1 : Int32)))) (q.1.2 (zi (x1 + (2 : Int32)))) v50 M49).bind fun (v51, M52) => (if v48 = v51 then f267_l18 q n (x1 + (6 : Int32)) M52 else some ((0 : Int32), M52)) else none else none else none else none else none else none else if ((q.1.2 (zi x1)) &&& (63 : Int32)) = (12 : Int32) then if zin (x1 + (1 : Int32)) q.1.1 = true then if zin (x1 + (2 : Int32)) q.1.1 = true then (f95_work (q.1.2 (zi (x1 + (1 : Int32)))) (q.1.2 (zi (x1 + (2 : Int32)))) M2).bind fun v53 => if zin (x1 + (1 : Int32)) q.1.1 = true then if zin (x1 + (2 : Int32)) q.1.1 = true then (f231_work (q.1.2 (zi (x1 + (1 : Int32)))) (q.1.2 (zi (x1 + (2 : Int32)))) M2).bind fun v54 => (if v53 = v54 then f267_l18 q n (x1 + (6 : Int32)) M2 else some ((0 : Int32), M2)) else none else none else none else none else if ((q.1.2 (zi x1)) &&& (63 : Int32)) = (13 : Int32) then if zin (x1 + (1 : Int32)) q.1.1 = true then if zin (x1 + (2 : Int32)) q.1.1 = true then (f96_book (q.1.2 (zi (x1 + (1 : Int32)))) (q.1.2 (zi (x1 + (2 : Int32)))) M2).bind fun v55 => if zin (x1 + (1 : Int32)) q.1.1 = true then if zin (x1 + (2 : Int32)) q.1.1 = true then (f232_book (q.1.2 (zi (x1 + (1 : Int32)))) (q.1.2 (zi (x1 + (2 : Int32)))) M2).bind fun v56 => (if v55 = v56 then f267_l18 q n (x1 + (6 : Int32)) M2 else some ((0 : Int32), M2)) else none else none else none else none else if ((q.1.2 (zi x1)) &&& (63 : Int32)) = (14 : Int32) then if zin (x1 + (1 : Int32)) q.1.1 = true then (f97_does (q.1.2 (zi (x1 + (1 : Int32)))) M2).bind fun (v57, M58) => if zin (x1 + (1 : Int32)) q.1.1 = true then (f233_does (q.1.2 (zi (x1 + (1 : Int32)))) M58).bind fun (v59, M60) => (if v57 = v59 then f267_l18 q n (x1 + (6 : Int32)) M60 else some ((0 : Int32), M60)) else none else none else if ((q.1.2 (zi x1)) &&& (63 : Int32)) = (15 : Int32) then if zin (x1 + (1 : Int32)) q.1.1 = true then if zin (x1 + (2 : Int32)) q.1.1 = true then if zin (x1 + (3 : Int32)) q.1.1 = true then (f99_plan (q.1.2 (zi (x1 + (1 : Int32)))) (q.1.2 (zi (x1 + (2 : Int32)))) (q.1.2 (zi (x1 + (3 : Int32)))) M2).bind fun v61 => if zin (x1 + (1 : Int32)) q.1.1 = true then if zin (x1 + (2 : Int32)) q.1.1 = true then if zin (x1 + (3 : Int32)) q.1.1 = true then (f228_plan (q.1.2 (zi (x1 + (1 : Int32)))) (q.1.2 (zi (x1 + (2 : Int32)))) (q.1.2 (zi (x1 + (3 : Int32)))) M2).bind fun v62 => (if v61 = v62 then f267_l18 q n (x1 + (6 : Int32)) M2 else some ((0 : Int32), M2)) else none else none else none else none else none else none else if ((q.1.2 (zi x1)) &&& (63 : Int32)) = (16 : Int32) then if zin (x1 + (1 : Int32)) q.1.1 = true then if zin (x1 + (2 : Int32)) q.1.1 = true then (f100_given (q.1.2 (zi (x1 + (1 : Int32)))) (q.1.2 (zi (x1 + (2 : Int32)))) M2).bind fun (v63, M64) => if zin (x1 + (1 : Int32)) q.1.1 = true then if zin (x1 + (2 : Int32)) q.1.1 = true then (f235_given (q.1.2 (zi (x1 + (1 : Int32)))) (q.1.2 (zi (x1 + (2 : Int32)))) M64).bind fun (v65, M66) => (if v63 = v65 then f267_l18 q n (x1 + (6 : Int32)) M66 else some ((0 : Int32), M66)) else none else none else none else none else if ((q.1.2 (zi x1)) &&& (63 : Int32)) = (17 : Int32) then if zin (x1 + (1 : Int32)) q.1.1 = true then (f101_can (q.1.2 (zi (x1 + (1 : Int32)))) M2).bind fun (v67, M68) => if zin (x1 + (1 : Int32)) q.1.1 = true then (f241_can (q.1.2 (zi (x1 + (1 : Int32)))) M68).bind fun (v69, M70) => (if v67 = v69 then f267_l18 q n (x1 + (6 : Int32)) M70 else some ((0 : Int32), M70)) else none else none else if ((q.1.2 (zi x1)) &&& (63 : Int32)) = (18 : Int32) then if zin (x1 + (1 : Int32)) q.1.1 = true then if zin (x1 + (2 : Int32)) q.1.1 = true then (f102_fewest (q.1.2 (zi (x1 + (1 : Int32)))) (q.1.2 (zi (x1 + (2 : Int32)))) M2).bind fun (v71, M72) => if zin (x1 + (1 : Int32)) q.1.1 = true then if zin (x1 + (2 : Int32)) q.1.1 = true then (f242_fewest (q.1.2 (zi (x1 + (1 : Int32)))) (q.1.2 (zi (x1 + (2 : Int32)))) M72).bind fun (v73, M74) => (if v71 = v73 then f267_l18 q n (x1 + (6 : Int32)) M74 else some ((0 : Int32), M74)) else none else none else none else none else if ((q.1.2 (zi x1)) &&& (63 : Int32)) = (19 : Int32) then if zin (x1 + (1 : Int32)) q.1.1 = true then (f104_hinge (q.1.2 (zi (x1 + (1 : Int32)))) M2).bind fun (v75, M76) => if zin (x1 + (1 : Int32)) q.1.1 = true then (f245_hinge (q.1.2 (zi (x1 + (1 : Int32)))) M76).bind fun (v77, M78) => (if v75 = v77 then f267_l18 q n (x1 + (6 : Int32)) M78 else some ((0 : Int32), M78)) else none else none else if ((q.1.2 (zi x1)) &&& (63 : Int32)) = (20 : Int32) then if zin (x1 + (1 : Int32)) q.1.1 = true then if zin (x1 + (2 : Int32)) q.1.1 = true then (f105_turnsOf (q.1.2 (zi (x1 + (1 : Int32)))) (q.1.2 (zi (x1 + (2 : Int32)))) M2).bind fun v79 => if zin (x1 + (1 : Int32)) q.1.1 = true then if zin (x1 + (2 : Int32)) q.1.1 = true then (f246_turnsOf (q.1.2 (zi (x1 + (1 : Int32)))) (q.1.2 (zi (x1 + (2 : Int32)))) M2).bind fun (v80, M81) => (if v79 = v80 then f267_l18 q n (x1 + (6 : Int32)) M81 else some ((0 : Int32), M81)) else none else none else none else none else if ((q.1.2 (zi x1)) &&& (63 : Int32)) = (21 : Int32) then if zin (x1 + (1 : Int32)) q.1.1 = true then if zin (x1 + (2 : Int32)) q.1.1 = true then (f108_traces (q.1.2 (zi (x1 + (1 : Int32)))) (q.1.2 (zi (x1 + (2 : Int32)))) M2).bind fun (v82, M83) => if zin (x1 + (1 : Int32)) q.1.1 = true then if zin (x1 + (2 : Int32)) q.1.1 = true then (f250_traces (q.1.2 (zi (x1 + (1 : Int32)))) (q.1.2 (zi (x1 + (2 : Int32)))) M83).bind fun (v84, M85) => (if v82 = v84 then f267_l18 q n (x1 + (6 : Int32)) M85 else some ((0 : Int32), M85)) else none else none else none else none else if ((q.1.2 (zi x1)) &&& (63 : Int32)) = (22 : Int32) then if zin (x1 + (1 : Int32)) q.1.1 = true then if zin (x1 + (2 : Int32)) q.1.1 = true then (f109_fits (q.1.2 (zi (x1 + (1 : Int32)))) (q.1.2 (zi (x1 + (2 : Int32)))) M2).bind fun (v86, M87) => if zin (x1 + (1 : Int32)) q.1.1 = true then if zin (x1 + (2 : Int32)) q.1.1 = true then (f251_fits (q.1.2 (zi (x1 + (1 : Int32)))) (q.1.2 (zi (x1 + (2 : Int32)))) M87).bind fun v88 => (if v86 = v88 then f267_l18 q n (x1 + (6 : Int32)) M87 else some ((0 : Int32), M87)) else none else none else none else none else if ((q.1.2 (zi x1)) &&& (63 : Int32)) = (23 : Int32) then if zin (x1 + (1 : Int32)) q.1.1 = true then (f113_lookAt (q.1.2 (zi (x1 + (1 : Int32)))) M2).bind fun (v89, M90) => if zin (x1 + (1 : Int32)) q.1.1 = true then (f255_lookAt (q.1.2 (zi (x1 + (1 : Int32)))) M90).bind fun v91 => (if v89 = v91 then f267_l18 q n (x1 + (6 : Int32)) M90 else some ((0 : Int32), M90)) else none else none else if ((q.1.2 (zi x1)) &&& (63 : Int32)) = (24 : Int32) then if zin (x1 + (1 : Int32)) q.1.1 = true then if zin (x1 + (2 : Int32)) q.1.1 = true then if zin (x1 + (3 : Int32)) q.1.1 = true then (f115_share (q.1.2 (zi (x1 + (1 : Int32)))) (q.1.2 (zi (x1 + (2 : Int32)))) (q.1.2 (zi (x1 + (3 : Int32)))) M2).bind fun v92 => if zin (x1 + (1 : Int32)) q.1.1 = true then if zin (x1 + (2 : Int32)) q.1.1 = true then if zin (x1 + (3 : Int32)) q.1.1 = true then (f256_share (q.1.2 (zi (x1 + (1 : Int32)))) (q.1.2 (zi (x1 + (2 : Int32)))) (q.1.2 (zi (x1 + (3 : Int32)))) M2).bind fun v93 => (if v92 = v93 then f267_l18 q n (x1 + (6 : Int32)) M2 else some ((0 : Int32), M2)) else none else none else none else none else none else none else if ((q.1.2 (zi x1)) &&& (63 : Int32)) = (25 : Int32) then if zin (x1 + (1 : Int32)) q.1.1 = true then if zin (x1 + (2 : Int32)) q.1.1 = true then (f116_bid (q.1.2 (zi (x1 + (1 : Int32)))) (q.1.2 (zi (x1 + (2 : Int32)))) M2).bind fun (v94, M95) => if zin (x1 + (1 : Int32)) q.1.1 = true then if zin (x1 + (2 : Int32)) q.1.1 = true then (f258_bid (q.1.2 (zi (x1 + (1 : Int32)))) (q.1.2 (zi (x1 + (2 : Int32)))) M95).bind fun (v96, M97) => (if v94 = v96 then f267_l18 q n (x1 + (6 : Int32)) M97 else some ((0 : Int32), M97)) else none else none else none else none else if ((q.1.2 (zi x1)) &&& (63 : Int32)) = (26 : Int32) then if zin (x1 + (1 : Int32)) q.1.1 = true then (f118_sold (q.1.2 (zi (x1 + (1 : Int32)))) M2).bind fun v98 => if zin (x1 + (1 : Int32)) q.1.1 = true then (f259_sold (q.1.2 (zi (x1 + (1 : Int32)))) M2).bind fun v99 => (if v98 = v99 then f267_l18 q n (x1 + (6 : Int32)) M2 else some ((0 : Int32), M2)) else none else none else if ((q.1.2 (zi x1)) &&& (63 : Int32)) = (27 : Int32) then if zin (x1 + (1 : Int32)) q.1.1 = true then (f122_rests (q.1.2 (zi (x1 + (1 : Int32)))) M2).bind fun v100 => if zin (x1 + (1 : Int32)) q.1.1 = true then (f260_rests (q.1.2 (zi (x1 + (1 : Int32)))) M2).bind fun v101 => (if v100 = v101 then f267_l18 q n (x1 + (6 : Int32)) M2 else some ((0 : Int32), M2)) else none else none else if ((q.1.2 (zi x1)) &&& (63 : Int32)) = (28 : Int32) then if zin (x1 + (1 : Int32)) q.1.1 = true then if zin (x1 + (2 : Int32)) q.1.1 = true then if zin (x1 + (3 : Int32)) q.1.1 = true then if zin (x1 + (4 : Int32)) q.1.1 = true then (f123_weekday (q.1.2 (zi (x1 + (1 : Int32)))) (q.1.2 (zi (x1 + (2 : Int32)))) (q.1.2 (zi (x1 + (3 : Int32)))) (q.1.2 (zi (x1 + (4 : Int32))))).bind fun v102 => if zin (x1 + (1 : Int32)) q.1.1 = true then if zin (x1 + (2 : Int32)) q.1.1 = true then if zin (x1 + (3 : Int32)) q.1.1 = true then if zin (x1 + (4 : Int32)) q.1.1 = true then (f261_weekday (q.1.2 (zi (x1 + (1 : Int32)))) (q.1.2 (zi (x1 + (2 : Int32)))) (q.1.2 (zi (x1 + (3 : Int32)))) (q.1.2 (zi (x1 + (4 : Int32))))).bind fun v103 => (if v102 = v103 then f267_l18 q n (x1 + (6 : Int32)) M2 else some ((0 : Int32), M2)) else none else none else none else none else none else none else none else none else if ((q.1.2 (zi x1)) &&& (63 : Int32)) = (29 : Int32) then (f124_next M2).bind fun v104 => (f237_next M2).bind fun v105 => (if v104 = v105 then f267_l18 q n (x1 + (6 : Int32)) M2 else some ((0 : Int32), M2)) else if ((q.1.2 (zi x1)) &&& (63 : Int32)) = (30 : Int32) then if zin (x1 + (1 : Int32)) q.1.1 = true then (f126_due (q.1.2 (zi (x1 + (1 : Int32)))) M2).bind fun v106 => if zin (x1 + (1 : Int32)) q.1.1 = true then (f239_due (q.1.2 (zi (x1 + (1 : Int32)))) M2).bind fun v107 => (if v106 = v107 then f267_l18 q n (x1 + (6 : Int32)) M2 else some ((0 : Int32), M2)) else none else none else if ((q.1.2 (zi x1)) &&& (63 : Int32)) = (31 : Int32) then if zin (x1 + (1 : Int32)) q.1.1 = true then (f127_doers (q.1.2 (zi (x1 + (1 : Int32)))) M2).bind fun (v108, M109) => if zin (x1 + (1 : Int32)) q.1.1 = true then (f243_doers (q.1.2 (zi (x1 + (1 : Int32)))) M109).bind fun (v110, M111) => (if v108 = v110 then f267_l18 q n (x1 + (6 : Int32)) M111 else some ((0 : Int32), M111)) else none else none else if ((q.1.2 (zi x1)) &&& (63 : Int32)) = (32 : Int32) then (f129_thieves M2).bind fun (v112, M113) => (f254_thieves M113).bind fun v114 => (if v112 = v114 then f267_l18 q n (x1 + (6 : Int32)) M113 else some ((0 : Int32), M113)) else if ((q.1.2 (zi x1)) &&& (63 : Int32)) = (33 : Int32) then if zin (x1 + (1 : Int32)) q.1.1 = true then (f130_soonest (q.1.2 (zi (x1 + (1 : Int32)))) M2).bind fun (v115, M116) => if zin (x1 + (1 : Int32)) q.1.1 = true then (f236_soonest (q.1.2 (zi (x1 + (1 : Int32)))) M116).bind fun (v117, M118) => (if v115 = v117 then f267_l18 q n (x1 + (6 : Int32)) M118 else some ((0 : Int32), M118)) else none else none else if ((q.1.2 (zi x1)) &&& (63 : Int32)) = (34 : Int32) then if zin (x1 + (1 : Int32)) q.1.1 = true then (f131_spread (q.1.2 (zi (x1 + (1 : Int32)))) M2).bind fun v119 => if zin (x1 + (1 : Int32)) q.1.1 = true then (f240_spread (q.1.2 (zi (x1 + (1 : Int32)))) M2).bind fun v120 => (if v119 = v120 then f267_l18 q n (x1 + (6 : Int32)) M2 else some ((0 : Int32), M2)) else none else none else if ((q.1.2 (zi x1)) &&& (63 : Int32)) = (35 : Int32) then if zin (x1 + (1 : Int32)) q.1.1 = true then if zin (x1 + (2 : Int32)) q.1.1 = true then (f134_way (q.1.2 (zi (x1 + (1 : Int32)))) (q.1.2 (zi (x1 + (2 : Int32)))) M2).bind fun v121 => if zin (x1 + (1 : Int32)) q.1.1 = true then if zin (x1 + (2 : Int32)) q.1.1 = true then (f262_way (q.1.2 (zi (x1 + (1 : Int32)))) (q.1.2 (zi (x1 + (2 : Int32)))) M2).bind fun v122 => (if v121 = v122 then f267_l18 q n (x1 + (6 : Int32)) M2 else some ((0 : Int32), M2)) else none else none else none else none else if ((q.1.2 (zi x1)) &&& (63 : Int32)) = (36 : Int32) then if zin (x1 + (1 : Int32)) q.1.1 = true then (f136_clique (q.1.2 (zi (x1 + (1 : Int32)))) M2).bind fun v123 => if zin (x1 + (1 : Int32)) q.1.1 = true then (f263_clique (q.1.2 (zi (x1 + (1 : Int32)))) M2).bind fun v124 => (if v123 = v124 then f267_l18 q n (x1 + (6 : Int32)) M2 else some ((0 : Int32), M2)) else none else none else if ((q.1.2 (zi x1)) &&& (63 : Int32)) = (37 : Int32) then (f138_undo M2).bind fun (v125, M126) => (f198_undo M126).bind fun (v127, M128) => (if v125 = v127 then f267_l18 q n (x1 + (6 : Int32)) M128 else some ((0 : Int32), M128)) else if ((q.1.2 (zi x1)) &&& (63 : Int32)) = (38 : Int32) then if zin (x1 + (1 : Int32)) q.1.1 = true then ((if (q.1.2 (zi (x1 + (1 : Int32)))) = 0 then some (0 : Int32) else some (1 : Int32)) : Option (Int32)).bind fun v129 =>
  (f139_image v129 M2).bind fun (v130, M131) => if zin (x1 + (1 : Int32)) q.1.1 = true then ((if (q.1.2 (zi (x1 + (1 : Int32)))) = 0 then some (0 : Int32) else some (1 : Int32)) : Option (Int32)).bind fun v132 =>
  (f265_image v132 M131).bind fun (v133, M134) => (if v130 = v133 then f267_l18 q n (x1 + (6 : Int32)) M134 else some ((0 : Int32), M134)) else none else none else if ((q.1.2 (zi x1)) &&& (63 : Int32)) = (39 : Int32) then if zin (x1 + (1 : Int32)) q.1.1 = true then (f143_look (q.1.2 (zi (x1 + (1 : Int32)))) M2).bind fun (v135, M136) => if zin (x1 + (1 : Int32)) q.1.1 = true then (f266_look (q.1.2 (zi (x1 + (1 : Int32)))) M136).bind fun (v137, M138) => (if v135 = v137 then f267_l18 q n (x1 + (6 : Int32)) M138 else some ((0 : Int32), M138)) else none else none else f267_l18 q n (x1 + (6 : Int32)) M2) else none)

theorem s267_l18 {q : ZQ} {d : Nat} (hL : zLay q) : ∀ (n : Nat) (x1 : Int32) (M2 : ZI), zX q (d + 89) 267 18 [.val (.ref 1000000), .val (.ref 0), .val (.ref 148), .val (.int x1)] [] M2 (f267_l18 q n x1 M2) zEm := by
  intro n
  induction n with
  | zero => intros; exact zX_none
  | succ n ih =>
    intro x1 M2
    rw [f267_l18]
    refine zX_iln3 (p := 19) d_267_18 rfl (zX_aln0 (p := 20) d_267_19 rfl (zX_sl (p := 21) d_267_20 rfl (zX_bi (p := 23) d_267_21 cb_6 rfl (zX_sub (p := 24) d_267_23 rfl ?_))))
    refine zX_cgt (p1 := 1432) (p2 := 27) d_267_24 (by decide) rfl ?_ ?_
    · refine zX_ic (p := 1433) d_267_1432 ci_1 rfl ?_
      exact zX_retmb d_267_1433 rt_267 (Or.inr rfl)
    · refine zX_aln0 (p := 28) d_267_27 rfl (zX_iln3 (p := 29) d_267_28 rfl (zX_sa (p := 30) d_267_29 rfl (zX_bi (p := 32) d_267_30 cb_63 rfl (zX_and (p := 33) d_267_32 rfl ?_))))
      refine zX_ite (fun hs33_0 => ?_) (fun hs33_0 => ?_)
      · refine zX_tsh (p := 208) (n := 0) d_267_33 hs33_0 (by decide) (by decide) (by decide) rfl (by decide) ?_
        refine zX_aln1 (p := 209) d_267_208 rfl (zX_aln0 (p := 210) d_267_209 rfl (zX_iln3 (p := 211) d_267_210 rfl (zX_ic (p := 212) d_267_211 ci_1 rfl (zX_add (p := 213) d_267_212 rfl (zX_sa (p := 214) d_267_213 rfl (zX_cV1m (p := 217) ⟨ow_10, by decide⟩ zo_0 d_267_214 ow_267 rs_11_13 kk_10 rfl (s10 hL) rfl rfl rfl rfl (fun v3 M4 => ?_)))))))
        try dsimp only
        refine zX_aln2 (p := 218) d_267_217 rfl (zX_aln0 (p := 219) d_267_218 rfl (zX_iln3 (p := 220) d_267_219 rfl (zX_ic (p := 221) d_267_220 ci_1 rfl (zX_add (p := 222) d_267_221 rfl (zX_sa (p := 223) d_267_222 rfl (zX_cV1m (p := 226) ⟨ow_146, by decide⟩ zo_148 d_267_223 ow_267 rs_11_17 kk_146 rfl (s146 hL) rfl rfl rfl rfl (fun v5 M6 => ?_)))))))
        try dsimp only
        refine zX_ceq (p1 := 1426) (p2 := 229) d_267_226 (by decide) rfl ?_ ?_
        · refine zX_ii3 (p := 1429) d_267_1426 ci_6 rfl (zX_goto (p := 18) d_267_1429 (by decide) ?_)
          exact ih (x1 + (6 : Int32)) M6
        · refine zX_ic (p := 230) d_267_229 ci_0 rfl ?_
          exact zX_retmb d_267_230 rt_267 (Or.inl rfl)
      refine zX_ite (fun hs33_1 => ?_) (fun hs33_1 => ?_)
      · refine zX_tsh (p := 231) (n := 1) d_267_33 hs33_1 (by decide) (by decide) (by decide) rfl (by decide) ?_
        refine zX_aln1 (p := 232) d_267_231 rfl (zX_aln0 (p := 233) d_267_232 rfl (zX_iln3 (p := 234) d_267_233 rfl (zX_ic (p := 235) d_267_234 ci_1 rfl (zX_add (p := 236) d_267_235 rfl (zX_sa (p := 237) d_267_236 rfl (zX_aln0 (p := 238) d_267_237 rfl (zX_iln3 (p := 239) d_267_238 rfl ?_)))))))
        refine zX_ic (p := 240) d_267_239 ci_2 rfl (zX_add (p := 241) d_267_240 rfl (zX_sa (p := 242) d_267_241 rfl (zX_cV2m (p := 245) ⟨ow_12, by decide⟩ zo_0 d_267_242 ow_267 rs_11_18 kk_12 rfl (s12 hL) rfl rfl rfl rfl (fun v7 M8 => ?_))))
        try dsimp only
        refine zX_aln2 (p := 246) d_267_245 rfl (zX_aln0 (p := 247) d_267_246 rfl (zX_iln3 (p := 248) d_267_247 rfl (zX_ic (p := 249) d_267_248 ci_1 rfl (zX_add (p := 250) d_267_249 rfl (zX_sa (p := 251) d_267_250 rfl (zX_aln0 (p := 252) d_267_251 rfl (zX_iln3 (p := 253) d_267_252 rfl ?_)))))))
        refine zX_ic (p := 254) d_267_253 ci_2 rfl (zX_add (p := 255) d_267_254 rfl (zX_sa (p := 256) d_267_255 rfl (zX_cV2m (p := 259) ⟨ow_148, by decide⟩ zo_148 d_267_256 ow_267 rs_11_22 kk_148 rfl (s148 hL) rfl rfl rfl rfl (fun v9 M10 => ?_))))
        try dsimp only
        refine zX_ceq (p1 := 1426) (p2 := 262) d_267_259 (by decide) rfl ?_ ?_
        · refine zX_ii3 (p := 1429) d_267_1426 ci_6 rfl (zX_goto (p := 18) d_267_1429 (by decide) ?_)
          exact ih (x1 + (6 : Int32)) M10
        · refine zX_ic (p := 263) d_267_262 ci_0 rfl ?_
          exact zX_retmb d_267_263 rt_267 (Or.inl rfl)
      refine zX_ite (fun hs33_2 => ?_) (fun hs33_2 => ?_)
      · refine zX_tsh (p := 264) (n := 2) d_267_33 hs33_2 (by decide) (by decide) (by decide) rfl (by decide) ?_
        refine zX_aln1 (p := 265) d_267_264 rfl (zX_aln0 (p := 266) d_267_265 rfl (zX_iln3 (p := 267) d_267_266 rfl (zX_ic (p := 268) d_267_267 ci_1 rfl (zX_add (p := 269) d_267_268 rfl (zX_sa (p := 270) d_267_269 rfl (zX_aln0 (p := 271) d_267_270 rfl (zX_iln3 (p := 272) d_267_271 rfl ?_)))))))
        refine zX_ic (p := 273) d_267_272 ci_2 rfl (zX_add (p := 274) d_267_273 rfl (zX_sa (p := 275) d_267_274 rfl (zX_aln0 (p := 276) d_267_275 rfl (zX_iln3 (p := 277) d_267_276 rfl (zX_ic (p := 278) d_267_277 ci_3 rfl (zX_add (p := 279) d_267_278 rfl (zX_sa (p := 280) d_267_279 rfl ?_)))))))
        refine zX_cV3m (p := 283) ⟨ow_15, by decide⟩ zo_0 d_267_280 ow_267 rs_11_23 kk_15 rfl (s15 hL) rfl rfl rfl rfl (fun v11 M12 => ?_)
        try dsimp only
        refine zX_aln2 (p := 284) d_267_283 rfl (zX_aln0 (p := 285) d_267_284 rfl (zX_iln3 (p := 286) d_267_285 rfl (zX_ic (p := 287) d_267_286 ci_1 rfl (zX_add (p := 288) d_267_287 rfl (zX_sa (p := 289) d_267_288 rfl (zX_aln0 (p := 290) d_267_289 rfl (zX_iln3 (p := 291) d_267_290 rfl ?_)))))))
        refine zX_ic (p := 292) d_267_291 ci_2 rfl (zX_add (p := 293) d_267_292 rfl (zX_sa (p := 294) d_267_293 rfl (zX_aln0 (p := 295) d_267_294 rfl (zX_iln3 (p := 296) d_267_295 rfl (zX_ic (p := 297) d_267_296 ci_3 rfl (zX_add (p := 298) d_267_297 rfl (zX_sa (p := 299) d_267_298 rfl ?_)))))))
        refine zX_cV3m (p := 302) ⟨ow_150, by decide⟩ zo_148 d_267_299 ow_267 rs_11_27 kk_150 rfl (s150 hL) rfl rfl rfl rfl (fun v13 M14 => ?_)
        try dsimp only
        refine zX_ceq (p1 := 1426) (p2 := 305) d_267_302 (by decide) rfl ?_ ?_
        · refine zX_ii3 (p := 1429) d_267_1426 ci_6 rfl (zX_goto (p := 18) d_267_1429 (by decide) ?_)
          exact ih (x1 + (6 : Int32)) M14
        · refine zX_ic (p := 306) d_267_305 ci_0 rfl ?_
          exact zX_retmb d_267_306 rt_267 (Or.inl rfl)
      refine zX_ite (fun hs33_3 => ?_) (fun hs33_3 => ?_)
      · refine zX_tsh (p := 307) (n := 3) d_267_33 hs33_3 (by decide) (by decide) (by decide) rfl (by decide) ?_
        refine zX_aln1 (p := 308) d_267_307 rfl (zX_aln0 (p := 309) d_267_308 rfl (zX_iln3 (p := 310) d_267_309 rfl (zX_ic (p := 311) d_267_310 ci_1 rfl (zX_add (p := 312) d_267_311 rfl (zX_sa (p := 313) d_267_312 rfl (zX_aln0 (p := 314) d_267_313 rfl (zX_iln3 (p := 315) d_267_314 rfl ?_)))))))
        refine zX_ic (p := 316) d_267_315 ci_2 rfl (zX_add (p := 317) d_267_316 rfl (zX_sa (p := 318) d_267_317 rfl (zX_aln0 (p := 319) d_267_318 rfl (zX_iln3 (p := 320) d_267_319 rfl (zX_ic (p := 321) d_267_320 ci_3 rfl (zX_add (p := 322) d_267_321 rfl (zX_sa (p := 323) d_267_322 rfl ?_)))))))
        refine zX_bind (σ := Unit) (β := Int32) (pj := 331) (lj := fun (b : Int32) (s : Unit) => [.val (.ref 1000000), .val (.ref 0), .val (.ref 148), .val (.int x1)]) (sj := fun b => [.int b, .int (q.1.2 (zi (x1 + (2 : Int32)))), .int (q.1.2 (zi (x1 + (1 : Int32)))), .ref 0]) (mj := fun b => M2) ?_ ?_
        · refine zX_zeq (p1 := 330) (p2 := 326) d_267_323 (by decide) rfl ?_ ?_
          · refine zX_ic (p := 331) d_267_330 ci_0 rfl ?_
            exact zX_leaf (fun _ _ h => h ())
          · refine zX_ic (p := 327) d_267_326 ci_1 rfl (zX_goto (p := 331) d_267_327 (by decide) ?_)
            exact zX_leaf (fun _ _ h => h ())
        · rintro v15 _
          try dsimp only
          refine zX_cV3m (p := 334) ⟨ow_18, by decide⟩ zo_0 d_267_331 ow_267 rs_11_28 kk_18 rfl (s18 hL) rfl rfl rfl rfl (fun v16 M17 => ?_)
          try dsimp only
          refine zX_aln2 (p := 335) d_267_334 rfl (zX_aln0 (p := 336) d_267_335 rfl (zX_iln3 (p := 337) d_267_336 rfl (zX_ic (p := 338) d_267_337 ci_1 rfl (zX_add (p := 339) d_267_338 rfl (zX_sa (p := 340) d_267_339 rfl (zX_aln0 (p := 341) d_267_340 rfl (zX_iln3 (p := 342) d_267_341 rfl ?_)))))))
          refine zX_ic (p := 343) d_267_342 ci_2 rfl (zX_add (p := 344) d_267_343 rfl (zX_sa (p := 345) d_267_344 rfl (zX_aln0 (p := 346) d_267_345 rfl (zX_iln3 (p := 347) d_267_346 rfl (zX_ic (p := 348) d_267_347 ci_3 rfl (zX_add (p := 349) d_267_348 rfl (zX_sa (p := 350) d_267_349 rfl ?_)))))))
          refine zX_bind (σ := Unit) (β := Int32) (pj := 358) (lj := fun (b : Int32) (s : Unit) => [.val (.ref 1000000), .val (.ref 0), .val (.ref 148), .val (.int x1)]) (sj := fun b => [.int b, .int (q.1.2 (zi (x1 + (2 : Int32)))), .int (q.1.2 (zi (x1 + (1 : Int32)))), .ref 148, .int v16]) (mj := fun b => M17) ?_ ?_
          · refine zX_zeq (p1 := 357) (p2 := 353) d_267_350 (by decide) rfl ?_ ?_
            · refine zX_ic (p := 358) d_267_357 ci_0 rfl ?_
              exact zX_leaf (fun _ _ h => h ())
            · refine zX_ic (p := 354) d_267_353 ci_1 rfl (zX_goto (p := 358) d_267_354 (by decide) ?_)
              exact zX_leaf (fun _ _ h => h ())
          · rintro v18 _
            try dsimp only
            refine zX_cV3m (p := 361) ⟨ow_199, by decide⟩ zo_148 d_267_358 ow_267 rs_11_32 kk_199 rfl (s199 hL) rfl rfl rfl rfl (fun v19 M20 => ?_)
            try dsimp only
            refine zX_ceq (p1 := 1426) (p2 := 364) d_267_361 (by decide) rfl ?_ ?_
            · refine zX_ii3 (p := 1429) d_267_1426 ci_6 rfl (zX_goto (p := 18) d_267_1429 (by decide) ?_)
              exact ih (x1 + (6 : Int32)) M20
            · refine zX_ic (p := 365) d_267_364 ci_0 rfl ?_
              exact zX_retmb d_267_365 rt_267 (Or.inl rfl)
      refine zX_ite (fun hs33_4 => ?_) (fun hs33_4 => ?_)
      · refine zX_tsh (p := 366) (n := 4) d_267_33 hs33_4 (by decide) (by decide) (by decide) rfl (by decide) ?_
        refine zX_aln1 (p := 367) d_267_366 rfl (zX_aln0 (p := 368) d_267_367 rfl (zX_iln3 (p := 369) d_267_368 rfl (zX_ic (p := 370) d_267_369 ci_1 rfl (zX_add (p := 371) d_267_370 rfl (zX_sa (p := 372) d_267_371 rfl (zX_cV1m (p := 375) ⟨ow_22, by decide⟩ zo_0 d_267_372 ow_267 rs_11_33 kk_22 rfl (s22 hL) rfl rfl rfl rfl (fun v21 M22 => ?_)))))))
        try dsimp only
        refine zX_aln2 (p := 376) d_267_375 rfl (zX_aln0 (p := 377) d_267_376 rfl (zX_iln3 (p := 378) d_267_377 rfl (zX_ic (p := 379) d_267_378 ci_1 rfl (zX_add (p := 380) d_267_379 rfl (zX_sa (p := 381) d_267_380 rfl (zX_cV1m (p := 384) ⟨ow_201, by decide⟩ zo_148 d_267_381 ow_267 rs_11_36 kk_201 rfl (s201 hL) rfl rfl rfl rfl (fun v23 M24 => ?_)))))))
        try dsimp only
        refine zX_ceq (p1 := 1426) (p2 := 387) d_267_384 (by decide) rfl ?_ ?_
        · refine zX_ii3 (p := 1429) d_267_1426 ci_6 rfl (zX_goto (p := 18) d_267_1429 (by decide) ?_)
          exact ih (x1 + (6 : Int32)) M24
        · refine zX_ic (p := 388) d_267_387 ci_0 rfl ?_
          exact zX_retmb d_267_388 rt_267 (Or.inl rfl)
      refine zX_ite (fun hs33_5 => ?_) (fun hs33_5 => ?_)
      · refine zX_tsh (p := 389) (n := 5) d_267_33 hs33_5 (by decide) (by decide) (by decide) rfl (by decide) ?_
        refine zX_aln1 (p := 390) d_267_389 rfl (zX_aln0 (p := 391) d_267_390 rfl (zX_iln3 (p := 392) d_267_391 rfl (zX_ic (p := 393) d_267_392 ci_1 rfl (zX_add (p := 394) d_267_393 rfl (zX_sa (p := 395) d_267_394 rfl (zX_cV1m (p := 398) ⟨ow_24, by decide⟩ zo_0 d_267_395 ow_267 rs_11_37 kk_24 rfl (s24 hL) rfl rfl rfl rfl (fun v25 M26 => ?_)))))))
        try dsimp only
        refine zX_aln2 (p := 399) d_267_398 rfl (zX_aln0 (p := 400) d_267_399 rfl (zX_iln3 (p := 401) d_267_400 rfl (zX_ic (p := 402) d_267_401 ci_1 rfl (zX_add (p := 403) d_267_402 rfl (zX_sa (p := 404) d_267_403 rfl (zX_cV1m (p := 407) ⟨ow_203, by decide⟩ zo_148 d_267_404 ow_267 rs_11_40 kk_203 rfl (s203 hL) rfl rfl rfl rfl (fun v27 M28 => ?_)))))))
        try dsimp only
        refine zX_ceq (p1 := 1426) (p2 := 410) d_267_407 (by decide) rfl ?_ ?_
        · refine zX_ii3 (p := 1429) d_267_1426 ci_6 rfl (zX_goto (p := 18) d_267_1429 (by decide) ?_)
          exact ih (x1 + (6 : Int32)) M28
        · refine zX_ic (p := 411) d_267_410 ci_0 rfl ?_
          exact zX_retmb d_267_411 rt_267 (Or.inl rfl)
      refine zX_ite (fun hs33_6 => ?_) (fun hs33_6 => ?_)
      · refine zX_tsh (p := 412) (n := 6) d_267_33 hs33_6 (by decide) (by decide) (by decide) rfl (by decide) ?_
        refine zX_aln1 (p := 413) d_267_412 rfl (zX_aln0 (p := 414) d_267_413 rfl (zX_iln3 (p := 415) d_267_414 rfl (zX_ic (p := 416) d_267_415 ci_1 rfl (zX_add (p := 417) d_267_416 rfl (zX_sa (p := 418) d_267_417 rfl (zX_aln0 (p := 419) d_267_418 rfl (zX_iln3 (p := 420) d_267_419 rfl ?_)))))))
        refine zX_ic (p := 421) d_267_420 ci_2 rfl (zX_add (p := 422) d_267_421 rfl (zX_sa (p := 423) d_267_422 rfl (zX_aln0 (p := 424) d_267_423 rfl (zX_iln3 (p := 425) d_267_424 rfl (zX_ic (p := 426) d_267_425 ci_3 rfl (zX_add (p := 427) d_267_426 rfl (zX_sa (p := 428) d_267_427 rfl ?_)))))))
        refine zX_aln0 (p := 429) d_267_428 rfl (zX_iln3 (p := 430) d_267_429 rfl (zX_ic (p := 431) d_267_430 ci_4 rfl (zX_add (p := 432) d_267_431 rfl (zX_sa (p := 433) d_267_432 rfl (zX_aln0 (p := 434) d_267_433 rfl (zX_iln3 (p := 435) d_267_434 rfl (zX_ic (p := 436) d_267_435 ci_5 rfl ?_)))))))
        refine zX_add (p := 437) d_267_436 rfl (zX_sa (p := 438) d_267_437 rfl (zX_cV5m (p := 441) ⟨ow_48, by decide⟩ zo_0 d_267_438 ow_267 rs_11_41 kk_48 rfl (s48 hL) rfl rfl rfl rfl (fun v29 M30 => ?_)))
        try dsimp only
        refine zX_aln2 (p := 442) d_267_441 rfl (zX_aln0 (p := 443) d_267_442 rfl (zX_iln3 (p := 444) d_267_443 rfl (zX_ic (p := 445) d_267_444 ci_1 rfl (zX_add (p := 446) d_267_445 rfl (zX_sa (p := 447) d_267_446 rfl (zX_aln0 (p := 448) d_267_447 rfl (zX_iln3 (p := 449) d_267_448 rfl ?_)))))))
        refine zX_ic (p := 450) d_267_449 ci_2 rfl (zX_add (p := 451) d_267_450 rfl (zX_sa (p := 452) d_267_451 rfl (zX_aln0 (p := 453) d_267_452 rfl (zX_iln3 (p := 454) d_267_453 rfl (zX_ic (p := 455) d_267_454 ci_3 rfl (zX_add (p := 456) d_267_455 rfl (zX_sa (p := 457) d_267_456 rfl ?_)))))))
        refine zX_aln0 (p := 458) d_267_457 rfl (zX_iln3 (p := 459) d_267_458 rfl (zX_ic (p := 460) d_267_459 ci_4 rfl (zX_add (p := 461) d_267_460 rfl (zX_sa (p := 462) d_267_461 rfl (zX_aln0 (p := 463) d_267_462 rfl (zX_iln3 (p := 464) d_267_463 rfl (zX_ic (p := 465) d_267_464 ci_5 rfl ?_)))))))
        refine zX_add (p := 466) d_267_465 rfl (zX_sa (p := 467) d_267_466 rfl (zX_cV5m (p := 470) ⟨ow_154, by decide⟩ zo_148 d_267_467 ow_267 rs_11_45 kk_154 rfl (s154 hL) rfl rfl rfl rfl (fun v31 M32 => ?_)))
        try dsimp only
        refine zX_ceq (p1 := 1426) (p2 := 473) d_267_470 (by decide) rfl ?_ ?_
        · refine zX_ii3 (p := 1429) d_267_1426 ci_6 rfl (zX_goto (p := 18) d_267_1429 (by decide) ?_)
          exact ih (x1 + (6 : Int32)) M32
        · refine zX_ic (p := 474) d_267_473 ci_0 rfl ?_
          exact zX_retmb d_267_474 rt_267 (Or.inl rfl)
      refine zX_ite (fun hs33_7 => ?_) (fun hs33_7 => ?_)
      · refine zX_tsh (p := 475) (n := 7) d_267_33 hs33_7 (by decide) (by decide) (by decide) rfl (by decide) ?_
        refine zX_aln1 (p := 476) d_267_475 rfl (zX_aln0 (p := 477) d_267_476 rfl (zX_iln3 (p := 478) d_267_477 rfl (zX_ic (p := 479) d_267_478 ci_1 rfl (zX_add (p := 480) d_267_479 rfl (zX_sa (p := 481) d_267_480 rfl (zX_cV1m (p := 484) ⟨ow_51, by decide⟩ zo_0 d_267_481 ow_267 rs_11_46 kk_51 rfl (s51 hL) rfl rfl rfl rfl (fun v33 M34 => ?_)))))))
        try dsimp only
        refine zX_aln2 (p := 485) d_267_484 rfl (zX_aln0 (p := 486) d_267_485 rfl (zX_iln3 (p := 487) d_267_486 rfl (zX_ic (p := 488) d_267_487 ci_1 rfl (zX_add (p := 489) d_267_488 rfl (zX_sa (p := 490) d_267_489 rfl (zX_cV1m (p := 493) ⟨ow_155, by decide⟩ zo_148 d_267_490 ow_267 rs_11_50 kk_155 rfl (s155 hL) rfl rfl rfl rfl (fun v35 M36 => ?_)))))))
        try dsimp only
        refine zX_ceq (p1 := 1426) (p2 := 496) d_267_493 (by decide) rfl ?_ ?_
        · refine zX_ii3 (p := 1429) d_267_1426 ci_6 rfl (zX_goto (p := 18) d_267_1429 (by decide) ?_)
          exact ih (x1 + (6 : Int32)) M36
        · refine zX_ic (p := 497) d_267_496 ci_0 rfl ?_
          exact zX_retmb d_267_497 rt_267 (Or.inl rfl)
      refine zX_ite (fun hs33_8 => ?_) (fun hs33_8 => ?_)
      · refine zX_tsh (p := 498) (n := 8) d_267_33 hs33_8 (by decide) (by decide) (by decide) rfl (by decide) ?_
        refine zX_aln1 (p := 499) d_267_498 rfl (zX_aln0 (p := 500) d_267_499 rfl (zX_iln3 (p := 501) d_267_500 rfl (zX_ic (p := 502) d_267_501 ci_1 rfl (zX_add (p := 503) d_267_502 rfl (zX_sa (p := 504) d_267_503 rfl (zX_cV1m (p := 507) ⟨ow_52, by decide⟩ zo_0 d_267_504 ow_267 rs_11_51 kk_52 rfl (s52 hL) rfl rfl rfl rfl (fun v37 M38 => ?_)))))))
        try dsimp only
        refine zX_aln2 (p := 508) d_267_507 rfl (zX_aln0 (p := 509) d_267_508 rfl (zX_iln3 (p := 510) d_267_509 rfl (zX_ic (p := 511) d_267_510 ci_1 rfl (zX_add (p := 512) d_267_511 rfl (zX_sa (p := 513) d_267_512 rfl (zX_cV1m (p := 516) ⟨ow_156, by decide⟩ zo_148 d_267_513 ow_267 rs_11_54 kk_156 rfl (s156 hL) rfl rfl rfl rfl (fun v39 M40 => ?_)))))))
        try dsimp only
        refine zX_ceq (p1 := 1426) (p2 := 519) d_267_516 (by decide) rfl ?_ ?_
        · refine zX_ii3 (p := 1429) d_267_1426 ci_6 rfl (zX_goto (p := 18) d_267_1429 (by decide) ?_)
          exact ih (x1 + (6 : Int32)) M40
        · refine zX_ic (p := 520) d_267_519 ci_0 rfl ?_
          exact zX_retmb d_267_520 rt_267 (Or.inl rfl)
      refine zX_ite (fun hs33_9 => ?_) (fun hs33_9 => ?_)
      · refine zX_tsh (p := 521) (n := 9) d_267_33 hs33_9 (by decide) (by decide) (by decide) rfl (by decide) ?_
        refine zX_aln1 (p := 522) d_267_521 rfl (zX_aln0 (p := 523) d_267_522 rfl (zX_iln3 (p := 524) d_267_523 rfl (zX_ic (p := 525) d_267_524 ci_1 rfl (zX_add (p := 526) d_267_525 rfl (zX_sa (p := 527) d_267_526 rfl (zX_cV1i (p := 530) ⟨ow_91, by decide⟩ zo_0 d_267_527 ow_267 rs_11_55 kk_91 rfl (s91 hL) rfl rfl rfl rfl (fun v41 => ?_)))))))
        refine zX_aln2 (p := 531) d_267_530 rfl (zX_aln0 (p := 532) d_267_531 rfl (zX_iln3 (p := 533) d_267_532 rfl (zX_ic (p := 534) d_267_533 ci_1 rfl (zX_add (p := 535) d_267_534 rfl (zX_sa (p := 536) d_267_535 rfl (zX_cV1i (p := 539) ⟨ow_197, by decide⟩ zo_148 d_267_536 ow_267 rs_11_58 kk_197 rfl (s197 hL) rfl rfl rfl rfl (fun v42 => ?_)))))))
        refine zX_ceq (p1 := 1426) (p2 := 542) d_267_539 (by decide) rfl ?_ ?_
        · refine zX_ii3 (p := 1429) d_267_1426 ci_6 rfl (zX_goto (p := 18) d_267_1429 (by decide) ?_)
          exact ih (x1 + (6 : Int32)) M2
        · refine zX_ic (p := 543) d_267_542 ci_0 rfl ?_
          exact zX_retmb d_267_543 rt_267 (Or.inl rfl)
      refine zX_ite (fun hs33_10 => ?_) (fun hs33_10 => ?_)
      · refine zX_tsh (p := 544) (n := 10) d_267_33 hs33_10 (by decide) (by decide) (by decide) rfl (by decide) ?_
        refine zX_aln1 (p := 545) d_267_544 rfl (zX_aln0 (p := 546) d_267_545 rfl (zX_iln3 (p := 547) d_267_546 rfl (zX_ic (p := 548) d_267_547 ci_1 rfl (zX_add (p := 549) d_267_548 rfl (zX_sa (p := 550) d_267_549 rfl (zX_aln0 (p := 551) d_267_550 rfl (zX_iln3 (p := 552) d_267_551 rfl ?_)))))))
        refine zX_ic (p := 553) d_267_552 ci_2 rfl (zX_add (p := 554) d_267_553 rfl (zX_sa (p := 555) d_267_554 rfl (zX_cV2m (p := 558) ⟨ow_92, by decide⟩ zo_0 d_267_555 ow_267 rs_11_59 kk_92 rfl (s92 hL) rfl rfl rfl rfl (fun v43 M44 => ?_))))
        try dsimp only
        refine zX_aln2 (p := 559) d_267_558 rfl (zX_aln0 (p := 560) d_267_559 rfl (zX_iln3 (p := 561) d_267_560 rfl (zX_ic (p := 562) d_267_561 ci_1 rfl (zX_add (p := 563) d_267_562 rfl (zX_sa (p := 564) d_267_563 rfl (zX_aln0 (p := 565) d_267_564 rfl (zX_iln3 (p := 566) d_267_565 rfl ?_)))))))
        refine zX_ic (p := 567) d_267_566 ci_2 rfl (zX_add (p := 568) d_267_567 rfl (zX_sa (p := 569) d_267_568 rfl (zX_cV2m (p := 572) ⟨ow_229, by decide⟩ zo_148 d_267_569 ow_267 rs_11_62 kk_229 rfl (s229 hL) rfl rfl rfl rfl (fun v45 M46 => ?_))))
        try dsimp only
        refine zX_ceq (p1 := 1426) (p2 := 575) d_267_572 (by decide) rfl ?_ ?_
        · refine zX_ii3 (p := 1429) d_267_1426 ci_6 rfl (zX_goto (p := 18) d_267_1429 (by decide) ?_)
          exact ih (x1 + (6 : Int32)) M46
        · refine zX_ic (p := 576) d_267_575 ci_0 rfl ?_
          exact zX_retmb d_267_576 rt_267 (Or.inl rfl)
      refine zX_ite (fun hs33_11 => ?_) (fun hs33_11 => ?_)
      · refine zX_tsh (p := 577) (n := 11) d_267_33 hs33_11 (by decide) (by decide) (by decide) rfl (by decide) ?_
        refine zX_aln1 (p := 578) d_267_577 rfl (zX_aln0 (p := 579) d_267_578 rfl (zX_iln3 (p := 580) d_267_579 rfl (zX_ic (p := 581) d_267_580 ci_1 rfl (zX_add (p := 582) d_267_581 rfl (zX_sa (p := 583) d_267_582 rfl (zX_aln0 (p := 584) d_267_583 rfl (zX_iln3 (p := 585) d_267_584 rfl ?_)))))))
        refine zX_ic (p := 586) d_267_585 ci_2 rfl (zX_add (p := 587) d_267_586 rfl (zX_sa (p := 588) d_267_587 rfl (zX_aln0 (p := 589) d_267_588 rfl (zX_iln3 (p := 590) d_267_589 rfl (zX_ic (p := 591) d_267_590 ci_3 rfl (zX_add (p := 592) d_267_591 rfl (zX_sa (p := 593) d_267_592 rfl ?_)))))))
        refine zX_bind (σ := Unit) (β := Int32) (pj := 601) (lj := fun (b : Int32) (s : Unit) => [.val (.ref 1000000), .val (.ref 0), .val (.ref 148), .val (.int x1)]) (sj := fun b => [.int b, .int (q.1.2 (zi (x1 + (2 : Int32)))), .int (q.1.2 (zi (x1 + (1 : Int32)))), .ref 0]) (mj := fun b => M2) ?_ ?_
        · refine zX_zeq (p1 := 600) (p2 := 596) d_267_593 (by decide) rfl ?_ ?_
          · refine zX_ic (p := 601) d_267_600 ci_0 rfl ?_
            exact zX_leaf (fun _ _ h => h ())
          · refine zX_ic (p := 597) d_267_596 ci_1 rfl (zX_goto (p := 601) d_267_597 (by decide) ?_)
            exact zX_leaf (fun _ _ h => h ())
        · rintro v47 _
          try dsimp only
          refine zX_cV3m (p := 604) ⟨ow_94, by decide⟩ zo_0 d_267_601 ow_267 rs_11_63 kk_94 rfl (s94 hL) rfl rfl rfl rfl (fun v48 M49 => ?_)
          try dsimp only
          refine zX_aln2 (p := 605) d_267_604 rfl (zX_aln0 (p := 606) d_267_605 rfl (zX_iln3 (p := 607) d_267_606 rfl (zX_ic (p := 608) d_267_607 ci_1 rfl (zX_add (p := 609) d_267_608 rfl (zX_sa (p := 610) d_267_609 rfl (zX_aln0 (p := 611) d_267_610 rfl (zX_iln3 (p := 612) d_267_611 rfl ?_)))))))
          refine zX_ic (p := 613) d_267_612 ci_2 rfl (zX_add (p := 614) d_267_613 rfl (zX_sa (p := 615) d_267_614 rfl (zX_aln0 (p := 616) d_267_615 rfl (zX_iln3 (p := 617) d_267_616 rfl (zX_ic (p := 618) d_267_617 ci_3 rfl (zX_add (p := 619) d_267_618 rfl (zX_sa (p := 620) d_267_619 rfl ?_)))))))
          refine zX_bind (σ := Unit) (β := Int32) (pj := 628) (lj := fun (b : Int32) (s : Unit) => [.val (.ref 1000000), .val (.ref 0), .val (.ref 148), .val (.int x1)]) (sj := fun b => [.int b, .int (q.1.2 (zi (x1 + (2 : Int32)))), .int (q.1.2 (zi (x1 + (1 : Int32)))), .ref 148, .int v48]) (mj := fun b => M49) ?_ ?_
          · refine zX_zeq (p1 := 627) (p2 := 623) d_267_620 (by decide) rfl ?_ ?_
            · refine zX_ic (p := 628) d_267_627 ci_0 rfl ?_
              exact zX_leaf (fun _ _ h => h ())
            · refine zX_ic (p := 624) d_267_623 ci_1 rfl (zX_goto (p := 628) d_267_624 (by decide) ?_)
              exact zX_leaf (fun _ _ h => h ())
          · rintro v50 _
            try dsimp only
            refine zX_cV3m (p := 631) ⟨ow_230, by decide⟩ zo_148 d_267_628 ow_267 rs_11_67 kk_230 rfl (s230 hL) rfl rfl rfl rfl (fun v51 M52 => ?_)
            try dsimp only
            refine zX_ceq (p1 := 1426) (p2 := 634) d_267_631 (by decide) rfl ?_ ?_
            · refine zX_ii3 (p := 1429) d_267_1426 ci_6 rfl (zX_goto (p := 18) d_267_1429 (by decide) ?_)
              exact ih (x1 + (6 : Int32)) M52
            · refine zX_ic (p := 635) d_267_634 ci_0 rfl ?_
              exact zX_retmb d_267_635 rt_267 (Or.inl rfl)
      refine zX_ite (fun hs33_12 => ?_) (fun hs33_12 => ?_)
      · refine zX_tsh (p := 636) (n := 12) d_267_33 hs33_12 (by decide) (by decide) (by decide) rfl (by decide) ?_
        refine zX_aln1 (p := 637) d_267_636 rfl (zX_aln0 (p := 638) d_267_637 rfl (zX_iln3 (p := 639) d_267_638 rfl (zX_ic (p := 640) d_267_639 ci_1 rfl (zX_add (p := 641) d_267_640 rfl (zX_sa (p := 642) d_267_641 rfl (zX_aln0 (p := 643) d_267_642 rfl (zX_iln3 (p := 644) d_267_643 rfl ?_)))))))
        refine zX_ic (p := 645) d_267_644 ci_2 rfl (zX_add (p := 646) d_267_645 rfl (zX_sa (p := 647) d_267_646 rfl (zX_cV2i (p := 650) ⟨ow_95, by decide⟩ zo_0 d_267_647 ow_267 rs_11_68 kk_95 rfl (s95 hL) rfl rfl rfl rfl (fun v53 => ?_))))
        refine zX_aln2 (p := 651) d_267_650 rfl (zX_aln0 (p := 652) d_267_651 rfl (zX_iln3 (p := 653) d_267_652 rfl (zX_ic (p := 654) d_267_653 ci_1 rfl (zX_add (p := 655) d_267_654 rfl (zX_sa (p := 656) d_267_655 rfl (zX_aln0 (p := 657) d_267_656 rfl (zX_iln3 (p := 658) d_267_657 rfl ?_)))))))
        refine zX_ic (p := 659) d_267_658 ci_2 rfl (zX_add (p := 660) d_267_659 rfl (zX_sa (p := 661) d_267_660 rfl (zX_cV2i (p := 664) ⟨ow_231, by decide⟩ zo_148 d_267_661 ow_267 rs_11_71 kk_231 rfl (s231 hL) rfl rfl rfl rfl (fun v54 => ?_))))
        refine zX_ceq (p1 := 1426) (p2 := 667) d_267_664 (by decide) rfl ?_ ?_
        · refine zX_ii3 (p := 1429) d_267_1426 ci_6 rfl (zX_goto (p := 18) d_267_1429 (by decide) ?_)
          exact ih (x1 + (6 : Int32)) M2
        · refine zX_ic (p := 668) d_267_667 ci_0 rfl ?_
          exact zX_retmb d_267_668 rt_267 (Or.inl rfl)
      refine zX_ite (fun hs33_13 => ?_) (fun hs33_13 => ?_)
      · refine zX_tsh (p := 669) (n := 13) d_267_33 hs33_13 (by decide) (by decide) (by decide) rfl (by decide) ?_
        refine zX_aln1 (p := 670) d_267_669 rfl (zX_aln0 (p := 671) d_267_670 rfl (zX_iln3 (p := 672) d_267_671 rfl (zX_ic (p := 673) d_267_672 ci_1 rfl (zX_add (p := 674) d_267_673 rfl (zX_sa (p := 675) d_267_674 rfl (zX_aln0 (p := 676) d_267_675 rfl (zX_iln3 (p := 677) d_267_676 rfl ?_)))))))
        refine zX_ic (p := 678) d_267_677 ci_2 rfl (zX_add (p := 679) d_267_678 rfl (zX_sa (p := 680) d_267_679 rfl (zX_cV2i (p := 683) ⟨ow_96, by decide⟩ zo_0 d_267_680 ow_267 rs_11_72 kk_96 rfl (s96 hL) rfl rfl rfl rfl (fun v55 => ?_))))
        refine zX_aln2 (p := 684) d_267_683 rfl (zX_aln0 (p := 685) d_267_684 rfl (zX_iln3 (p := 686) d_267_685 rfl (zX_ic (p := 687) d_267_686 ci_1 rfl (zX_add (p := 688) d_267_687 rfl (zX_sa (p := 689) d_267_688 rfl (zX_aln0 (p := 690) d_267_689 rfl (zX_iln3 (p := 691) d_267_690 rfl ?_)))))))
        refine zX_ic (p := 692) d_267_691 ci_2 rfl (zX_add (p := 693) d_267_692 rfl (zX_sa (p := 694) d_267_693 rfl (zX_cV2i (p := 697) ⟨ow_232, by decide⟩ zo_148 d_267_694 ow_267 rs_11_75 kk_232 rfl (s232 hL) rfl rfl rfl rfl (fun v56 => ?_))))
        refine zX_ceq (p1 := 1426) (p2 := 700) d_267_697 (by decide) rfl ?_ ?_
        · refine zX_ii3 (p := 1429) d_267_1426 ci_6 rfl (zX_goto (p := 18) d_267_1429 (by decide) ?_)
          exact ih (x1 + (6 : Int32)) M2
        · refine zX_ic (p := 701) d_267_700 ci_0 rfl ?_
          exact zX_retmb d_267_701 rt_267 (Or.inl rfl)
      refine zX_ite (fun hs33_14 => ?_) (fun hs33_14 => ?_)
      · refine zX_tsh (p := 702) (n := 14) d_267_33 hs33_14 (by decide) (by decide) (by decide) rfl (by decide) ?_
        refine zX_aln1 (p := 703) d_267_702 rfl (zX_aln0 (p := 704) d_267_703 rfl (zX_iln3 (p := 705) d_267_704 rfl (zX_ic (p := 706) d_267_705 ci_1 rfl (zX_add (p := 707) d_267_706 rfl (zX_sa (p := 708) d_267_707 rfl (zX_cV1m (p := 711) ⟨ow_97, by decide⟩ zo_0 d_267_708 ow_267 rs_11_76 kk_97 rfl (s97 hL) rfl rfl rfl rfl (fun v57 M58 => ?_)))))))
        try dsimp only
        refine zX_aln2 (p := 712) d_267_711 rfl (zX_aln0 (p := 713) d_267_712 rfl (zX_iln3 (p := 714) d_267_713 rfl (zX_ic (p := 715) d_267_714 ci_1 rfl (zX_add (p := 716) d_267_715 rfl (zX_sa (p := 717) d_267_716 rfl (zX_cV1m (p := 720) ⟨ow_233, by decide⟩ zo_148 d_267_717 ow_267 rs_11_79 kk_233 rfl (s233 hL) rfl rfl rfl rfl (fun v59 M60 => ?_)))))))
        try dsimp only
        refine zX_ceq (p1 := 1426) (p2 := 723) d_267_720 (by decide) rfl ?_ ?_
        · refine zX_ii3 (p := 1429) d_267_1426 ci_6 rfl (zX_goto (p := 18) d_267_1429 (by decide) ?_)
          exact ih (x1 + (6 : Int32)) M60
        · refine zX_ic (p := 724) d_267_723 ci_0 rfl ?_
          exact zX_retmb d_267_724 rt_267 (Or.inl rfl)
      refine zX_ite (fun hs33_15 => ?_) (fun hs33_15 => ?_)
      · refine zX_tsh (p := 725) (n := 15) d_267_33 hs33_15 (by decide) (by decide) (by decide) rfl (by decide) ?_
        refine zX_aln1 (p := 726) d_267_725 rfl (zX_aln0 (p := 727) d_267_726 rfl (zX_iln3 (p := 728) d_267_727 rfl (zX_ic (p := 729) d_267_728 ci_1 rfl (zX_add (p := 730) d_267_729 rfl (zX_sa (p := 731) d_267_730 rfl (zX_aln0 (p := 732) d_267_731 rfl (zX_iln3 (p := 733) d_267_732 rfl ?_)))))))
        refine zX_ic (p := 734) d_267_733 ci_2 rfl (zX_add (p := 735) d_267_734 rfl (zX_sa (p := 736) d_267_735 rfl (zX_aln0 (p := 737) d_267_736 rfl (zX_iln3 (p := 738) d_267_737 rfl (zX_ic (p := 739) d_267_738 ci_3 rfl (zX_add (p := 740) d_267_739 rfl (zX_sa (p := 741) d_267_740 rfl ?_)))))))
        refine zX_cV3i (p := 744) ⟨ow_99, by decide⟩ zo_0 d_267_741 ow_267 rs_11_80 kk_99 rfl (s99 hL) rfl rfl rfl rfl (fun v61 => ?_)
        refine zX_aln2 (p := 745) d_267_744 rfl (zX_aln0 (p := 746) d_267_745 rfl (zX_iln3 (p := 747) d_267_746 rfl (zX_ic (p := 748) d_267_747 ci_1 rfl (zX_add (p := 749) d_267_748 rfl (zX_sa (p := 750) d_267_749 rfl (zX_aln0 (p := 751) d_267_750 rfl (zX_iln3 (p := 752) d_267_751 rfl ?_)))))))
        refine zX_ic (p := 753) d_267_752 ci_2 rfl (zX_add (p := 754) d_267_753 rfl (zX_sa (p := 755) d_267_754 rfl (zX_aln0 (p := 756) d_267_755 rfl (zX_iln3 (p := 757) d_267_756 rfl (zX_ic (p := 758) d_267_757 ci_3 rfl (zX_add (p := 759) d_267_758 rfl (zX_sa (p := 760) d_267_759 rfl ?_)))))))
        refine zX_cV3i (p := 763) ⟨ow_228, by decide⟩ zo_148 d_267_760 ow_267 rs_11_84 kk_228 rfl (s228 hL) rfl rfl rfl rfl (fun v62 => ?_)
        refine zX_ceq (p1 := 1426) (p2 := 766) d_267_763 (by decide) rfl ?_ ?_
        · refine zX_ii3 (p := 1429) d_267_1426 ci_6 rfl (zX_goto (p := 18) d_267_1429 (by decide) ?_)
          exact ih (x1 + (6 : Int32)) M2
        · refine zX_ic (p := 767) d_267_766 ci_0 rfl ?_
          exact zX_retmb d_267_767 rt_267 (Or.inl rfl)
      refine zX_ite (fun hs33_16 => ?_) (fun hs33_16 => ?_)
      · refine zX_tsh (p := 768) (n := 16) d_267_33 hs33_16 (by decide) (by decide) (by decide) rfl (by decide) ?_
        refine zX_aln1 (p := 769) d_267_768 rfl (zX_aln0 (p := 770) d_267_769 rfl (zX_iln3 (p := 771) d_267_770 rfl (zX_ic (p := 772) d_267_771 ci_1 rfl (zX_add (p := 773) d_267_772 rfl (zX_sa (p := 774) d_267_773 rfl (zX_aln0 (p := 775) d_267_774 rfl (zX_iln3 (p := 776) d_267_775 rfl ?_)))))))
        refine zX_ic (p := 777) d_267_776 ci_2 rfl (zX_add (p := 778) d_267_777 rfl (zX_sa (p := 779) d_267_778 rfl (zX_cV2m (p := 782) ⟨ow_100, by decide⟩ zo_0 d_267_779 ow_267 rs_11_85 kk_100 rfl (s100 hL) rfl rfl rfl rfl (fun v63 M64 => ?_))))
        try dsimp only
        refine zX_aln2 (p := 783) d_267_782 rfl (zX_aln0 (p := 784) d_267_783 rfl (zX_iln3 (p := 785) d_267_784 rfl (zX_ic (p := 786) d_267_785 ci_1 rfl (zX_add (p := 787) d_267_786 rfl (zX_sa (p := 788) d_267_787 rfl (zX_aln0 (p := 789) d_267_788 rfl (zX_iln3 (p := 790) d_267_789 rfl ?_)))))))
        refine zX_ic (p := 791) d_267_790 ci_2 rfl (zX_add (p := 792) d_267_791 rfl (zX_sa (p := 793) d_267_792 rfl (zX_cV2m (p := 796) ⟨ow_235, by decide⟩ zo_148 d_267_793 ow_267 rs_11_88 kk_235 rfl (s235 hL) rfl rfl rfl rfl (fun v65 M66 => ?_))))
        try dsimp only
        refine zX_ceq (p1 := 1426) (p2 := 799) d_267_796 (by decide) rfl ?_ ?_
        · refine zX_ii3 (p := 1429) d_267_1426 ci_6 rfl (zX_goto (p := 18) d_267_1429 (by decide) ?_)
          exact ih (x1 + (6 : Int32)) M66
        · refine zX_ic (p := 800) d_267_799 ci_0 rfl ?_
          exact zX_retmb d_267_800 rt_267 (Or.inl rfl)
      refine zX_ite (fun hs33_17 => ?_) (fun hs33_17 => ?_)
      · refine zX_tsh (p := 801) (n := 17) d_267_33 hs33_17 (by decide) (by decide) (by decide) rfl (by decide) ?_
        refine zX_aln1 (p := 802) d_267_801 rfl (zX_aln0 (p := 803) d_267_802 rfl (zX_iln3 (p := 804) d_267_803 rfl (zX_ic (p := 805) d_267_804 ci_1 rfl (zX_add (p := 806) d_267_805 rfl (zX_sa (p := 807) d_267_806 rfl (zX_cV1m (p := 810) ⟨ow_101, by decide⟩ zo_0 d_267_807 ow_267 rs_11_89 kk_101 rfl (s101 hL) rfl rfl rfl rfl (fun v67 M68 => ?_)))))))
        try dsimp only
        refine zX_aln2 (p := 811) d_267_810 rfl (zX_aln0 (p := 812) d_267_811 rfl (zX_iln3 (p := 813) d_267_812 rfl (zX_ic (p := 814) d_267_813 ci_1 rfl (zX_add (p := 815) d_267_814 rfl (zX_sa (p := 816) d_267_815 rfl (zX_cV1m (p := 819) ⟨ow_241, by decide⟩ zo_148 d_267_816 ow_267 rs_11_92 kk_241 rfl (s241 hL) rfl rfl rfl rfl (fun v69 M70 => ?_)))))))
        try dsimp only
        refine zX_ceq (p1 := 1426) (p2 := 822) d_267_819 (by decide) rfl ?_ ?_
        · refine zX_ii3 (p := 1429) d_267_1426 ci_6 rfl (zX_goto (p := 18) d_267_1429 (by decide) ?_)
          exact ih (x1 + (6 : Int32)) M70
        · refine zX_ic (p := 823) d_267_822 ci_0 rfl ?_
          exact zX_retmb d_267_823 rt_267 (Or.inl rfl)
      refine zX_ite (fun hs33_18 => ?_) (fun hs33_18 => ?_)
      · refine zX_tsh (p := 824) (n := 18) d_267_33 hs33_18 (by decide) (by decide) (by decide) rfl (by decide) ?_
        refine zX_aln1 (p := 825) d_267_824 rfl (zX_aln0 (p := 826) d_267_825 rfl (zX_iln3 (p := 827) d_267_826 rfl (zX_ic (p := 828) d_267_827 ci_1 rfl (zX_add (p := 829) d_267_828 rfl (zX_sa (p := 830) d_267_829 rfl (zX_aln0 (p := 831) d_267_830 rfl (zX_iln3 (p := 832) d_267_831 rfl ?_)))))))
        refine zX_ic (p := 833) d_267_832 ci_2 rfl (zX_add (p := 834) d_267_833 rfl (zX_sa (p := 835) d_267_834 rfl (zX_cV2m (p := 838) ⟨ow_102, by decide⟩ zo_0 d_267_835 ow_267 rs_11_93 kk_102 rfl (s102 hL) rfl rfl rfl rfl (fun v71 M72 => ?_))))
        try dsimp only
        refine zX_aln2 (p := 839) d_267_838 rfl (zX_aln0 (p := 840) d_267_839 rfl (zX_iln3 (p := 841) d_267_840 rfl (zX_ic (p := 842) d_267_841 ci_1 rfl (zX_add (p := 843) d_267_842 rfl (zX_sa (p := 844) d_267_843 rfl (zX_aln0 (p := 845) d_267_844 rfl (zX_iln3 (p := 846) d_267_845 rfl ?_)))))))
        refine zX_ic (p := 847) d_267_846 ci_2 rfl (zX_add (p := 848) d_267_847 rfl (zX_sa (p := 849) d_267_848 rfl (zX_cV2m (p := 852) ⟨ow_242, by decide⟩ zo_148 d_267_849 ow_267 rs_11_96 kk_242 rfl (s242 hL) rfl rfl rfl rfl (fun v73 M74 => ?_))))
        try dsimp only
        refine zX_ceq (p1 := 1426) (p2 := 855) d_267_852 (by decide) rfl ?_ ?_
        · refine zX_ii3 (p := 1429) d_267_1426 ci_6 rfl (zX_goto (p := 18) d_267_1429 (by decide) ?_)
          exact ih (x1 + (6 : Int32)) M74
        · refine zX_ic (p := 856) d_267_855 ci_0 rfl ?_
          exact zX_retmb d_267_856 rt_267 (Or.inl rfl)
      refine zX_ite (fun hs33_19 => ?_) (fun hs33_19 => ?_)
      · refine zX_tsh (p := 857) (n := 19) d_267_33 hs33_19 (by decide) (by decide) (by decide) rfl (by decide) ?_
        refine zX_aln1 (p := 858) d_267_857 rfl (zX_aln0 (p := 859) d_267_858 rfl (zX_iln3 (p := 860) d_267_859 rfl (zX_ic (p := 861) d_267_860 ci_1 rfl (zX_add (p := 862) d_267_861 rfl (zX_sa (p := 863) d_267_862 rfl (zX_cV1m (p := 866) ⟨ow_104, by decide⟩ zo_0 d_267_863 ow_267 rs_11_97 kk_104 rfl (s104 hL) rfl rfl rfl rfl (fun v75 M76 => ?_)))))))
        try dsimp only
        refine zX_aln2 (p := 867) d_267_866 rfl (zX_aln0 (p := 868) d_267_867 rfl (zX_iln3 (p := 869) d_267_868 rfl (zX_ic (p := 870) d_267_869 ci_1 rfl (zX_add (p := 871) d_267_870 rfl (zX_sa (p := 872) d_267_871 rfl (zX_cV1m (p := 875) ⟨ow_245, by decide⟩ zo_148 d_267_872 ow_267 rs_11_100 kk_245 rfl (s245 hL) rfl rfl rfl rfl (fun v77 M78 => ?_)))))))
        try dsimp only
        refine zX_ceq (p1 := 1426) (p2 := 878) d_267_875 (by decide) rfl ?_ ?_
        · refine zX_ii3 (p := 1429) d_267_1426 ci_6 rfl (zX_goto (p := 18) d_267_1429 (by decide) ?_)
          exact ih (x1 + (6 : Int32)) M78
        · refine zX_ic (p := 879) d_267_878 ci_0 rfl ?_
          exact zX_retmb d_267_879 rt_267 (Or.inl rfl)
      refine zX_ite (fun hs33_20 => ?_) (fun hs33_20 => ?_)
      · refine zX_tsh (p := 880) (n := 20) d_267_33 hs33_20 (by decide) (by decide) (by decide) rfl (by decide) ?_
        refine zX_aln1 (p := 881) d_267_880 rfl (zX_aln0 (p := 882) d_267_881 rfl (zX_iln3 (p := 883) d_267_882 rfl (zX_ic (p := 884) d_267_883 ci_1 rfl (zX_add (p := 885) d_267_884 rfl (zX_sa (p := 886) d_267_885 rfl (zX_aln0 (p := 887) d_267_886 rfl (zX_iln3 (p := 888) d_267_887 rfl ?_)))))))
        refine zX_ic (p := 889) d_267_888 ci_2 rfl (zX_add (p := 890) d_267_889 rfl (zX_sa (p := 891) d_267_890 rfl (zX_cV2i (p := 894) ⟨ow_105, by decide⟩ zo_0 d_267_891 ow_267 rs_11_101 kk_105 rfl (s105 hL) rfl rfl rfl rfl (fun v79 => ?_))))
        refine zX_aln2 (p := 895) d_267_894 rfl (zX_aln0 (p := 896) d_267_895 rfl (zX_iln3 (p := 897) d_267_896 rfl (zX_ic (p := 898) d_267_897 ci_1 rfl (zX_add (p := 899) d_267_898 rfl (zX_sa (p := 900) d_267_899 rfl (zX_aln0 (p := 901) d_267_900 rfl (zX_iln3 (p := 902) d_267_901 rfl ?_)))))))
        refine zX_ic (p := 903) d_267_902 ci_2 rfl (zX_add (p := 904) d_267_903 rfl (zX_sa (p := 905) d_267_904 rfl (zX_cV2m (p := 908) ⟨ow_246, by decide⟩ zo_148 d_267_905 ow_267 rs_11_104 kk_246 rfl (s246 hL) rfl rfl rfl rfl (fun v80 M81 => ?_))))
        try dsimp only
        refine zX_ceq (p1 := 1426) (p2 := 911) d_267_908 (by decide) rfl ?_ ?_
        · refine zX_ii3 (p := 1429) d_267_1426 ci_6 rfl (zX_goto (p := 18) d_267_1429 (by decide) ?_)
          exact ih (x1 + (6 : Int32)) M81
        · refine zX_ic (p := 912) d_267_911 ci_0 rfl ?_
          exact zX_retmb d_267_912 rt_267 (Or.inl rfl)
      refine zX_ite (fun hs33_21 => ?_) (fun hs33_21 => ?_)
      · refine zX_tsh (p := 913) (n := 21) d_267_33 hs33_21 (by decide) (by decide) (by decide) rfl (by decide) ?_
        refine zX_aln1 (p := 914) d_267_913 rfl (zX_aln0 (p := 915) d_267_914 rfl (zX_iln3 (p := 916) d_267_915 rfl (zX_ic (p := 917) d_267_916 ci_1 rfl (zX_add (p := 918) d_267_917 rfl (zX_sa (p := 919) d_267_918 rfl (zX_aln0 (p := 920) d_267_919 rfl (zX_iln3 (p := 921) d_267_920 rfl ?_)))))))
        refine zX_ic (p := 922) d_267_921 ci_2 rfl (zX_add (p := 923) d_267_922 rfl (zX_sa (p := 924) d_267_923 rfl (zX_cV2m (p := 927) ⟨ow_108, by decide⟩ zo_0 d_267_924 ow_267 rs_11_105 kk_108 rfl (s108 hL) rfl rfl rfl rfl (fun v82 M83 => ?_))))
        try dsimp only
        refine zX_aln2 (p := 928) d_267_927 rfl (zX_aln0 (p := 929) d_267_928 rfl (zX_iln3 (p := 930) d_267_929 rfl (zX_ic (p := 931) d_267_930 ci_1 rfl (zX_add (p := 932) d_267_931 rfl (zX_sa (p := 933) d_267_932 rfl (zX_aln0 (p := 934) d_267_933 rfl (zX_iln3 (p := 935) d_267_934 rfl ?_)))))))
        refine zX_ic (p := 936) d_267_935 ci_2 rfl (zX_add (p := 937) d_267_936 rfl (zX_sa (p := 938) d_267_937 rfl (zX_cV2m (p := 941) ⟨ow_250, by decide⟩ zo_148 d_267_938 ow_267 rs_11_109 kk_250 rfl (s250 hL) rfl rfl rfl rfl (fun v84 M85 => ?_))))
        try dsimp only
        refine zX_ceq (p1 := 1426) (p2 := 944) d_267_941 (by decide) rfl ?_ ?_
        · refine zX_ii3 (p := 1429) d_267_1426 ci_6 rfl (zX_goto (p := 18) d_267_1429 (by decide) ?_)
          exact ih (x1 + (6 : Int32)) M85
        · refine zX_ic (p := 945) d_267_944 ci_0 rfl ?_
          exact zX_retmb d_267_945 rt_267 (Or.inl rfl)
      refine zX_ite (fun hs33_22 => ?_) (fun hs33_22 => ?_)
      · refine zX_tsh (p := 946) (n := 22) d_267_33 hs33_22 (by decide) (by decide) (by decide) rfl (by decide) ?_
        refine zX_aln1 (p := 947) d_267_946 rfl (zX_aln0 (p := 948) d_267_947 rfl (zX_iln3 (p := 949) d_267_948 rfl (zX_ic (p := 950) d_267_949 ci_1 rfl (zX_add (p := 951) d_267_950 rfl (zX_sa (p := 952) d_267_951 rfl (zX_aln0 (p := 953) d_267_952 rfl (zX_iln3 (p := 954) d_267_953 rfl ?_)))))))
        refine zX_ic (p := 955) d_267_954 ci_2 rfl (zX_add (p := 956) d_267_955 rfl (zX_sa (p := 957) d_267_956 rfl (zX_cV2m (p := 960) ⟨ow_109, by decide⟩ zo_0 d_267_957 ow_267 rs_11_110 kk_109 rfl (s109 hL) rfl rfl rfl rfl (fun v86 M87 => ?_))))
        try dsimp only
        refine zX_aln2 (p := 961) d_267_960 rfl (zX_aln0 (p := 962) d_267_961 rfl (zX_iln3 (p := 963) d_267_962 rfl (zX_ic (p := 964) d_267_963 ci_1 rfl (zX_add (p := 965) d_267_964 rfl (zX_sa (p := 966) d_267_965 rfl (zX_aln0 (p := 967) d_267_966 rfl (zX_iln3 (p := 968) d_267_967 rfl ?_)))))))
        refine zX_ic (p := 969) d_267_968 ci_2 rfl (zX_add (p := 970) d_267_969 rfl (zX_sa (p := 971) d_267_970 rfl (zX_cV2i (p := 974) ⟨ow_251, by decide⟩ zo_148 d_267_971 ow_267 rs_11_113 kk_251 rfl (s251 hL) rfl rfl rfl rfl (fun v88 => ?_))))
        refine zX_ceq (p1 := 1426) (p2 := 977) d_267_974 (by decide) rfl ?_ ?_
        · refine zX_ii3 (p := 1429) d_267_1426 ci_6 rfl (zX_goto (p := 18) d_267_1429 (by decide) ?_)
          exact ih (x1 + (6 : Int32)) M87
        · refine zX_ic (p := 978) d_267_977 ci_0 rfl ?_
          exact zX_retmb d_267_978 rt_267 (Or.inl rfl)
      refine zX_ite (fun hs33_23 => ?_) (fun hs33_23 => ?_)
      · refine zX_tsh (p := 979) (n := 23) d_267_33 hs33_23 (by decide) (by decide) (by decide) rfl (by decide) ?_
        refine zX_aln1 (p := 980) d_267_979 rfl (zX_aln0 (p := 981) d_267_980 rfl (zX_iln3 (p := 982) d_267_981 rfl (zX_ic (p := 983) d_267_982 ci_1 rfl (zX_add (p := 984) d_267_983 rfl (zX_sa (p := 985) d_267_984 rfl (zX_cV1m (p := 988) ⟨ow_113, by decide⟩ zo_0 d_267_985 ow_267 rs_11_114 kk_113 rfl (s113 hL) rfl rfl rfl rfl (fun v89 M90 => ?_)))))))
        try dsimp only
        refine zX_aln2 (p := 989) d_267_988 rfl (zX_aln0 (p := 990) d_267_989 rfl (zX_iln3 (p := 991) d_267_990 rfl (zX_ic (p := 992) d_267_991 ci_1 rfl (zX_add (p := 993) d_267_992 rfl (zX_sa (p := 994) d_267_993 rfl (zX_cV1i (p := 997) ⟨ow_255, by decide⟩ zo_148 d_267_994 ow_267 rs_11_117 kk_255 rfl (s255 hL) rfl rfl rfl rfl (fun v91 => ?_)))))))
        refine zX_ceq (p1 := 1426) (p2 := 1000) d_267_997 (by decide) rfl ?_ ?_
        · refine zX_ii3 (p := 1429) d_267_1426 ci_6 rfl (zX_goto (p := 18) d_267_1429 (by decide) ?_)
          exact ih (x1 + (6 : Int32)) M90
        · refine zX_ic (p := 1001) d_267_1000 ci_0 rfl ?_
          exact zX_retmb d_267_1001 rt_267 (Or.inl rfl)
      refine zX_ite (fun hs33_24 => ?_) (fun hs33_24 => ?_)
      · refine zX_tsh (p := 1002) (n := 24) d_267_33 hs33_24 (by decide) (by decide) (by decide) rfl (by decide) ?_
        refine zX_aln1 (p := 1003) d_267_1002 rfl (zX_aln0 (p := 1004) d_267_1003 rfl (zX_iln3 (p := 1005) d_267_1004 rfl (zX_ic (p := 1006) d_267_1005 ci_1 rfl (zX_add (p := 1007) d_267_1006 rfl (zX_sa (p := 1008) d_267_1007 rfl (zX_aln0 (p := 1009) d_267_1008 rfl (zX_iln3 (p := 1010) d_267_1009 rfl ?_)))))))
        refine zX_ic (p := 1011) d_267_1010 ci_2 rfl (zX_add (p := 1012) d_267_1011 rfl (zX_sa (p := 1013) d_267_1012 rfl (zX_aln0 (p := 1014) d_267_1013 rfl (zX_iln3 (p := 1015) d_267_1014 rfl (zX_ic (p := 1016) d_267_1015 ci_3 rfl (zX_add (p := 1017) d_267_1016 rfl (zX_sa (p := 1018) d_267_1017 rfl ?_)))))))
        refine zX_cV3i (p := 1021) ⟨ow_115, by decide⟩ zo_0 d_267_1018 ow_267 rs_11_118 kk_115 rfl (s115 hL) rfl rfl rfl rfl (fun v92 => ?_)
        refine zX_aln2 (p := 1022) d_267_1021 rfl (zX_aln0 (p := 1023) d_267_1022 rfl (zX_iln3 (p := 1024) d_267_1023 rfl (zX_ic (p := 1025) d_267_1024 ci_1 rfl (zX_add (p := 1026) d_267_1025 rfl (zX_sa (p := 1027) d_267_1026 rfl (zX_aln0 (p := 1028) d_267_1027 rfl (zX_iln3 (p := 1029) d_267_1028 rfl ?_)))))))
        refine zX_ic (p := 1030) d_267_1029 ci_2 rfl (zX_add (p := 1031) d_267_1030 rfl (zX_sa (p := 1032) d_267_1031 rfl (zX_aln0 (p := 1033) d_267_1032 rfl (zX_iln3 (p := 1034) d_267_1033 rfl (zX_ic (p := 1035) d_267_1034 ci_3 rfl (zX_add (p := 1036) d_267_1035 rfl (zX_sa (p := 1037) d_267_1036 rfl ?_)))))))
        refine zX_cV3i (p := 1040) ⟨ow_256, by decide⟩ zo_148 d_267_1037 ow_267 rs_11_121 kk_256 rfl (s256 hL) rfl rfl rfl rfl (fun v93 => ?_)
        refine zX_ceq (p1 := 1426) (p2 := 1043) d_267_1040 (by decide) rfl ?_ ?_
        · refine zX_ii3 (p := 1429) d_267_1426 ci_6 rfl (zX_goto (p := 18) d_267_1429 (by decide) ?_)
          exact ih (x1 + (6 : Int32)) M2
        · refine zX_ic (p := 1044) d_267_1043 ci_0 rfl ?_
          exact zX_retmb d_267_1044 rt_267 (Or.inl rfl)
      refine zX_ite (fun hs33_25 => ?_) (fun hs33_25 => ?_)
      · refine zX_tsh (p := 1045) (n := 25) d_267_33 hs33_25 (by decide) (by decide) (by decide) rfl (by decide) ?_
        refine zX_aln1 (p := 1046) d_267_1045 rfl (zX_aln0 (p := 1047) d_267_1046 rfl (zX_iln3 (p := 1048) d_267_1047 rfl (zX_ic (p := 1049) d_267_1048 ci_1 rfl (zX_add (p := 1050) d_267_1049 rfl (zX_sa (p := 1051) d_267_1050 rfl (zX_aln0 (p := 1052) d_267_1051 rfl (zX_iln3 (p := 1053) d_267_1052 rfl ?_)))))))
        refine zX_ic (p := 1054) d_267_1053 ci_2 rfl (zX_add (p := 1055) d_267_1054 rfl (zX_sa (p := 1056) d_267_1055 rfl (zX_cV2m (p := 1059) ⟨ow_116, by decide⟩ zo_0 d_267_1056 ow_267 rs_11_122 kk_116 rfl (s116 hL) rfl rfl rfl rfl (fun v94 M95 => ?_))))
        try dsimp only
        refine zX_aln2 (p := 1060) d_267_1059 rfl (zX_aln0 (p := 1061) d_267_1060 rfl (zX_iln3 (p := 1062) d_267_1061 rfl (zX_ic (p := 1063) d_267_1062 ci_1 rfl (zX_add (p := 1064) d_267_1063 rfl (zX_sa (p := 1065) d_267_1064 rfl (zX_aln0 (p := 1066) d_267_1065 rfl (zX_iln3 (p := 1067) d_267_1066 rfl ?_)))))))
        refine zX_ic (p := 1068) d_267_1067 ci_2 rfl (zX_add (p := 1069) d_267_1068 rfl (zX_sa (p := 1070) d_267_1069 rfl (zX_cV2m (p := 1073) ⟨ow_258, by decide⟩ zo_148 d_267_1070 ow_267 rs_11_125 kk_258 rfl (s258 hL) rfl rfl rfl rfl (fun v96 M97 => ?_))))
        try dsimp only
        refine zX_ceq (p1 := 1426) (p2 := 1076) d_267_1073 (by decide) rfl ?_ ?_
        · refine zX_ii3 (p := 1429) d_267_1426 ci_6 rfl (zX_goto (p := 18) d_267_1429 (by decide) ?_)
          exact ih (x1 + (6 : Int32)) M97
        · refine zX_ic (p := 1077) d_267_1076 ci_0 rfl ?_
          exact zX_retmb d_267_1077 rt_267 (Or.inl rfl)
      refine zX_ite (fun hs33_26 => ?_) (fun hs33_26 => ?_)
      · refine zX_tsh (p := 1078) (n := 26) d_267_33 hs33_26 (by decide) (by decide) (by decide) rfl (by decide) ?_
        refine zX_aln1 (p := 1079) d_267_1078 rfl (zX_aln0 (p := 1080) d_267_1079 rfl (zX_iln3 (p := 1081) d_267_1080 rfl (zX_ic (p := 1082) d_267_1081 ci_1 rfl (zX_add (p := 1083) d_267_1082 rfl (zX_sa (p := 1084) d_267_1083 rfl (zX_cV1i (p := 1087) ⟨ow_118, by decide⟩ zo_0 d_267_1084 ow_267 rs_11_126 kk_118 rfl (s118 hL) rfl rfl rfl rfl (fun v98 => ?_)))))))
        refine zX_aln2 (p := 1088) d_267_1087 rfl (zX_aln0 (p := 1089) d_267_1088 rfl (zX_iln3 (p := 1090) d_267_1089 rfl (zX_ic (p := 1091) d_267_1090 ci_1 rfl (zX_add (p := 1092) d_267_1091 rfl (zX_sa (p := 1093) d_267_1092 rfl (zX_cV1i (p := 1096) ⟨ow_259, by decide⟩ zo_148 d_267_1093 ow_267 rs_11_129 kk_259 rfl (s259 hL) rfl rfl rfl rfl (fun v99 => ?_)))))))
        refine zX_ceq (p1 := 1426) (p2 := 1099) d_267_1096 (by decide) rfl ?_ ?_
        · refine zX_ii3 (p := 1429) d_267_1426 ci_6 rfl (zX_goto (p := 18) d_267_1429 (by decide) ?_)
          exact ih (x1 + (6 : Int32)) M2
        · refine zX_ic (p := 1100) d_267_1099 ci_0 rfl ?_
          exact zX_retmb d_267_1100 rt_267 (Or.inl rfl)
      refine zX_ite (fun hs33_27 => ?_) (fun hs33_27 => ?_)
      · refine zX_tsh (p := 1101) (n := 27) d_267_33 hs33_27 (by decide) (by decide) (by decide) rfl (by decide) ?_
        refine zX_aln1 (p := 1102) d_267_1101 rfl (zX_aln0 (p := 1103) d_267_1102 rfl (zX_iln3 (p := 1104) d_267_1103 rfl (zX_ic (p := 1105) d_267_1104 ci_1 rfl (zX_add (p := 1106) d_267_1105 rfl (zX_sa (p := 1107) d_267_1106 rfl (zX_cV1i (p := 1110) ⟨ow_122, by decide⟩ zo_0 d_267_1107 ow_267 rs_11_130 kk_122 rfl (s122 hL) rfl rfl rfl rfl (fun v100 => ?_)))))))
        refine zX_aln2 (p := 1111) d_267_1110 rfl (zX_aln0 (p := 1112) d_267_1111 rfl (zX_iln3 (p := 1113) d_267_1112 rfl (zX_ic (p := 1114) d_267_1113 ci_1 rfl (zX_add (p := 1115) d_267_1114 rfl (zX_sa (p := 1116) d_267_1115 rfl (zX_cV1i (p := 1119) ⟨ow_260, by decide⟩ zo_148 d_267_1116 ow_267 rs_11_133 kk_260 rfl (s260 hL) rfl rfl rfl rfl (fun v101 => ?_)))))))
        refine zX_ceq (p1 := 1426) (p2 := 1122) d_267_1119 (by decide) rfl ?_ ?_
        · refine zX_ii3 (p := 1429) d_267_1426 ci_6 rfl (zX_goto (p := 18) d_267_1429 (by decide) ?_)
          exact ih (x1 + (6 : Int32)) M2
        · refine zX_ic (p := 1123) d_267_1122 ci_0 rfl ?_
          exact zX_retmb d_267_1123 rt_267 (Or.inl rfl)
      refine zX_ite (fun hs33_28 => ?_) (fun hs33_28 => ?_)
      · refine zX_tsh (p := 1124) (n := 28) d_267_33 hs33_28 (by decide) (by decide) (by decide) rfl (by decide) ?_
        refine zX_aln1 (p := 1125) d_267_1124 rfl (zX_aln0 (p := 1126) d_267_1125 rfl (zX_iln3 (p := 1127) d_267_1126 rfl (zX_ic (p := 1128) d_267_1127 ci_1 rfl (zX_add (p := 1129) d_267_1128 rfl (zX_sa (p := 1130) d_267_1129 rfl (zX_aln0 (p := 1131) d_267_1130 rfl (zX_iln3 (p := 1132) d_267_1131 rfl ?_)))))))
        refine zX_ic (p := 1133) d_267_1132 ci_2 rfl (zX_add (p := 1134) d_267_1133 rfl (zX_sa (p := 1135) d_267_1134 rfl (zX_aln0 (p := 1136) d_267_1135 rfl (zX_iln3 (p := 1137) d_267_1136 rfl (zX_ic (p := 1138) d_267_1137 ci_3 rfl (zX_add (p := 1139) d_267_1138 rfl (zX_sa (p := 1140) d_267_1139 rfl ?_)))))))
        refine zX_aln0 (p := 1141) d_267_1140 rfl (zX_iln3 (p := 1142) d_267_1141 rfl (zX_ic (p := 1143) d_267_1142 ci_4 rfl (zX_add (p := 1144) d_267_1143 rfl (zX_sa (p := 1145) d_267_1144 rfl (zX_cV4i (p := 1148) ⟨ow_123, by decide⟩ zo_0 d_267_1145 ow_267 rs_11_134 kk_123 rfl (s123 hL) rfl rfl rfl rfl (fun v102 => ?_))))))
        refine zX_aln2 (p := 1149) d_267_1148 rfl (zX_aln0 (p := 1150) d_267_1149 rfl (zX_iln3 (p := 1151) d_267_1150 rfl (zX_ic (p := 1152) d_267_1151 ci_1 rfl (zX_add (p := 1153) d_267_1152 rfl (zX_sa (p := 1154) d_267_1153 rfl (zX_aln0 (p := 1155) d_267_1154 rfl (zX_iln3 (p := 1156) d_267_1155 rfl ?_)))))))
        refine zX_ic (p := 1157) d_267_1156 ci_2 rfl (zX_add (p := 1158) d_267_1157 rfl (zX_sa (p := 1159) d_267_1158 rfl (zX_aln0 (p := 1160) d_267_1159 rfl (zX_iln3 (p := 1161) d_267_1160 rfl (zX_ic (p := 1162) d_267_1161 ci_3 rfl (zX_add (p := 1163) d_267_1162 rfl (zX_sa (p := 1164) d_267_1163 rfl ?_)))))))
        refine zX_aln0 (p := 1165) d_267_1164 rfl (zX_iln3 (p := 1166) d_267_1165 rfl (zX_ic (p := 1167) d_267_1166 ci_4 rfl (zX_add (p := 1168) d_267_1167 rfl (zX_sa (p := 1169) d_267_1168 rfl (zX_cV4i (p := 1172) ⟨ow_261, by decide⟩ zo_148 d_267_1169 ow_267 rs_11_138 kk_261 rfl (s261 hL) rfl rfl rfl rfl (fun v103 => ?_))))))
        refine zX_ceq (p1 := 1426) (p2 := 1175) d_267_1172 (by decide) rfl ?_ ?_
        · refine zX_ii3 (p := 1429) d_267_1426 ci_6 rfl (zX_goto (p := 18) d_267_1429 (by decide) ?_)
          exact ih (x1 + (6 : Int32)) M2
        · refine zX_ic (p := 1176) d_267_1175 ci_0 rfl ?_
          exact zX_retmb d_267_1176 rt_267 (Or.inl rfl)
      refine zX_ite (fun hs33_29 => ?_) (fun hs33_29 => ?_)
      · refine zX_tsh (p := 1177) (n := 29) d_267_33 hs33_29 (by decide) (by decide) (by decide) rfl (by decide) ?_
        refine zX_aln1 (p := 1178) d_267_1177 rfl (zX_cV0i (p := 1181) ⟨ow_124, by decide⟩ zo_0 d_267_1178 ow_267 rs_11_139 kk_124 rfl (s124 hL) rfl rfl rfl rfl (fun v104 => ?_))
        refine zX_aln2 (p := 1182) d_267_1181 rfl (zX_cV0i (p := 1185) ⟨ow_237, by decide⟩ zo_148 d_267_1182 ow_267 rs_11_143 kk_237 rfl (s237 hL) rfl rfl rfl rfl (fun v105 => ?_))
        refine zX_ceq (p1 := 1426) (p2 := 1188) d_267_1185 (by decide) rfl ?_ ?_
        · refine zX_ii3 (p := 1429) d_267_1426 ci_6 rfl (zX_goto (p := 18) d_267_1429 (by decide) ?_)
          exact ih (x1 + (6 : Int32)) M2
        · refine zX_ic (p := 1189) d_267_1188 ci_0 rfl ?_
          exact zX_retmb d_267_1189 rt_267 (Or.inl rfl)
      refine zX_ite (fun hs33_30 => ?_) (fun hs33_30 => ?_)
      · refine zX_tsh (p := 1190) (n := 30) d_267_33 hs33_30 (by decide) (by decide) (by decide) rfl (by decide) ?_
        refine zX_aln1 (p := 1191) d_267_1190 rfl (zX_aln0 (p := 1192) d_267_1191 rfl (zX_iln3 (p := 1193) d_267_1192 rfl (zX_ic (p := 1194) d_267_1193 ci_1 rfl (zX_add (p := 1195) d_267_1194 rfl (zX_sa (p := 1196) d_267_1195 rfl (zX_cV1i (p := 1199) ⟨ow_126, by decide⟩ zo_0 d_267_1196 ow_267 rs_11_144 kk_126 rfl (s126 hL) rfl rfl rfl rfl (fun v106 => ?_)))))))
        refine zX_aln2 (p := 1200) d_267_1199 rfl (zX_aln0 (p := 1201) d_267_1200 rfl (zX_iln3 (p := 1202) d_267_1201 rfl (zX_ic (p := 1203) d_267_1202 ci_1 rfl (zX_add (p := 1204) d_267_1203 rfl (zX_sa (p := 1205) d_267_1204 rfl (zX_cV1i (p := 1208) ⟨ow_239, by decide⟩ zo_148 d_267_1205 ow_267 rs_11_147 kk_239 rfl (s239 hL) rfl rfl rfl rfl (fun v107 => ?_)))))))
        refine zX_ceq (p1 := 1426) (p2 := 1211) d_267_1208 (by decide) rfl ?_ ?_
        · refine zX_ii3 (p := 1429) d_267_1426 ci_6 rfl (zX_goto (p := 18) d_267_1429 (by decide) ?_)
          exact ih (x1 + (6 : Int32)) M2
        · refine zX_ic (p := 1212) d_267_1211 ci_0 rfl ?_
          exact zX_retmb d_267_1212 rt_267 (Or.inl rfl)
      refine zX_ite (fun hs33_31 => ?_) (fun hs33_31 => ?_)
      · refine zX_tsh (p := 1213) (n := 31) d_267_33 hs33_31 (by decide) (by decide) (by decide) rfl (by decide) ?_
        refine zX_aln1 (p := 1214) d_267_1213 rfl (zX_aln0 (p := 1215) d_267_1214 rfl (zX_iln3 (p := 1216) d_267_1215 rfl (zX_ic (p := 1217) d_267_1216 ci_1 rfl (zX_add (p := 1218) d_267_1217 rfl (zX_sa (p := 1219) d_267_1218 rfl (zX_cV1m (p := 1222) ⟨ow_127, by decide⟩ zo_0 d_267_1219 ow_267 rs_11_148 kk_127 rfl (s127 hL) rfl rfl rfl rfl (fun v108 M109 => ?_)))))))
        try dsimp only
        refine zX_aln2 (p := 1223) d_267_1222 rfl (zX_aln0 (p := 1224) d_267_1223 rfl (zX_iln3 (p := 1225) d_267_1224 rfl (zX_ic (p := 1226) d_267_1225 ci_1 rfl (zX_add (p := 1227) d_267_1226 rfl (zX_sa (p := 1228) d_267_1227 rfl (zX_cV1m (p := 1231) ⟨ow_243, by decide⟩ zo_148 d_267_1228 ow_267 rs_11_151 kk_243 rfl (s243 hL) rfl rfl rfl rfl (fun v110 M111 => ?_)))))))
        try dsimp only
        refine zX_ceq (p1 := 1426) (p2 := 1234) d_267_1231 (by decide) rfl ?_ ?_
        · refine zX_ii3 (p := 1429) d_267_1426 ci_6 rfl (zX_goto (p := 18) d_267_1429 (by decide) ?_)
          exact ih (x1 + (6 : Int32)) M111
        · refine zX_ic (p := 1235) d_267_1234 ci_0 rfl ?_
          exact zX_retmb d_267_1235 rt_267 (Or.inl rfl)
      refine zX_ite (fun hs33_32 => ?_) (fun hs33_32 => ?_)
      · refine zX_tsh (p := 1236) (n := 32) d_267_33 hs33_32 (by decide) (by decide) (by decide) rfl (by decide) ?_
        refine zX_aln1 (p := 1237) d_267_1236 rfl (zX_cV0m (p := 1240) ⟨ow_129, by decide⟩ zo_0 d_267_1237 ow_267 rs_11_152 kk_129 rfl (s129 hL) rfl rfl rfl rfl (fun v112 M113 => ?_))
        try dsimp only
        refine zX_aln2 (p := 1241) d_267_1240 rfl (zX_cV0i (p := 1244) ⟨ow_254, by decide⟩ zo_148 d_267_1241 ow_267 rs_11_155 kk_254 rfl (s254 hL) rfl rfl rfl rfl (fun v114 => ?_))
        refine zX_ceq (p1 := 1426) (p2 := 1247) d_267_1244 (by decide) rfl ?_ ?_
        · refine zX_ii3 (p := 1429) d_267_1426 ci_6 rfl (zX_goto (p := 18) d_267_1429 (by decide) ?_)
          exact ih (x1 + (6 : Int32)) M113
        · refine zX_ic (p := 1248) d_267_1247 ci_0 rfl ?_
          exact zX_retmb d_267_1248 rt_267 (Or.inl rfl)
      refine zX_ite (fun hs33_33 => ?_) (fun hs33_33 => ?_)
      · refine zX_tsh (p := 1249) (n := 33) d_267_33 hs33_33 (by decide) (by decide) (by decide) rfl (by decide) ?_
        refine zX_aln1 (p := 1250) d_267_1249 rfl (zX_aln0 (p := 1251) d_267_1250 rfl (zX_iln3 (p := 1252) d_267_1251 rfl (zX_ic (p := 1253) d_267_1252 ci_1 rfl (zX_add (p := 1254) d_267_1253 rfl (zX_sa (p := 1255) d_267_1254 rfl (zX_cV1m (p := 1258) ⟨ow_130, by decide⟩ zo_0 d_267_1255 ow_267 rs_11_156 kk_130 rfl (s130 hL) rfl rfl rfl rfl (fun v115 M116 => ?_)))))))
        try dsimp only
        refine zX_aln2 (p := 1259) d_267_1258 rfl (zX_aln0 (p := 1260) d_267_1259 rfl (zX_iln3 (p := 1261) d_267_1260 rfl (zX_ic (p := 1262) d_267_1261 ci_1 rfl (zX_add (p := 1263) d_267_1262 rfl (zX_sa (p := 1264) d_267_1263 rfl (zX_cV1m (p := 1267) ⟨ow_236, by decide⟩ zo_148 d_267_1264 ow_267 rs_11_159 kk_236 rfl (s236 hL) rfl rfl rfl rfl (fun v117 M118 => ?_)))))))
        try dsimp only
        refine zX_ceq (p1 := 1426) (p2 := 1270) d_267_1267 (by decide) rfl ?_ ?_
        · refine zX_ii3 (p := 1429) d_267_1426 ci_6 rfl (zX_goto (p := 18) d_267_1429 (by decide) ?_)
          exact ih (x1 + (6 : Int32)) M118
        · refine zX_ic (p := 1271) d_267_1270 ci_0 rfl ?_
          exact zX_retmb d_267_1271 rt_267 (Or.inl rfl)
      refine zX_ite (fun hs33_34 => ?_) (fun hs33_34 => ?_)
      · refine zX_tsh (p := 1272) (n := 34) d_267_33 hs33_34 (by decide) (by decide) (by decide) rfl (by decide) ?_
        refine zX_aln1 (p := 1273) d_267_1272 rfl (zX_aln0 (p := 1274) d_267_1273 rfl (zX_iln3 (p := 1275) d_267_1274 rfl (zX_ic (p := 1276) d_267_1275 ci_1 rfl (zX_add (p := 1277) d_267_1276 rfl (zX_sa (p := 1278) d_267_1277 rfl (zX_cV1i (p := 1281) ⟨ow_131, by decide⟩ zo_0 d_267_1278 ow_267 rs_11_160 kk_131 rfl (s131 hL) rfl rfl rfl rfl (fun v119 => ?_)))))))
        refine zX_aln2 (p := 1282) d_267_1281 rfl (zX_aln0 (p := 1283) d_267_1282 rfl (zX_iln3 (p := 1284) d_267_1283 rfl (zX_ic (p := 1285) d_267_1284 ci_1 rfl (zX_add (p := 1286) d_267_1285 rfl (zX_sa (p := 1287) d_267_1286 rfl (zX_cV1i (p := 1290) ⟨ow_240, by decide⟩ zo_148 d_267_1287 ow_267 rs_11_163 kk_240 rfl (s240 hL) rfl rfl rfl rfl (fun v120 => ?_)))))))
        refine zX_ceq (p1 := 1426) (p2 := 1293) d_267_1290 (by decide) rfl ?_ ?_
        · refine zX_ii3 (p := 1429) d_267_1426 ci_6 rfl (zX_goto (p := 18) d_267_1429 (by decide) ?_)
          exact ih (x1 + (6 : Int32)) M2
        · refine zX_ic (p := 1294) d_267_1293 ci_0 rfl ?_
          exact zX_retmb d_267_1294 rt_267 (Or.inl rfl)
      refine zX_ite (fun hs33_35 => ?_) (fun hs33_35 => ?_)
      · refine zX_tsh (p := 1295) (n := 35) d_267_33 hs33_35 (by decide) (by decide) (by decide) rfl (by decide) ?_
        refine zX_aln1 (p := 1296) d_267_1295 rfl (zX_aln0 (p := 1297) d_267_1296 rfl (zX_iln3 (p := 1298) d_267_1297 rfl (zX_ic (p := 1299) d_267_1298 ci_1 rfl (zX_add (p := 1300) d_267_1299 rfl (zX_sa (p := 1301) d_267_1300 rfl (zX_aln0 (p := 1302) d_267_1301 rfl (zX_iln3 (p := 1303) d_267_1302 rfl ?_)))))))
        refine zX_ic (p := 1304) d_267_1303 ci_2 rfl (zX_add (p := 1305) d_267_1304 rfl (zX_sa (p := 1306) d_267_1305 rfl (zX_cV2i (p := 1309) ⟨ow_134, by decide⟩ zo_0 d_267_1306 ow_267 rs_11_164 kk_134 rfl (s134 hL) rfl rfl rfl rfl (fun v121 => ?_))))
        refine zX_aln2 (p := 1310) d_267_1309 rfl (zX_aln0 (p := 1311) d_267_1310 rfl (zX_iln3 (p := 1312) d_267_1311 rfl (zX_ic (p := 1313) d_267_1312 ci_1 rfl (zX_add (p := 1314) d_267_1313 rfl (zX_sa (p := 1315) d_267_1314 rfl (zX_aln0 (p := 1316) d_267_1315 rfl (zX_iln3 (p := 1317) d_267_1316 rfl ?_)))))))
        refine zX_ic (p := 1318) d_267_1317 ci_2 rfl (zX_add (p := 1319) d_267_1318 rfl (zX_sa (p := 1320) d_267_1319 rfl (zX_cV2i (p := 1323) ⟨ow_262, by decide⟩ zo_148 d_267_1320 ow_267 rs_11_167 kk_262 rfl (s262 hL) rfl rfl rfl rfl (fun v122 => ?_))))
        refine zX_ceq (p1 := 1426) (p2 := 1326) d_267_1323 (by decide) rfl ?_ ?_
        · refine zX_ii3 (p := 1429) d_267_1426 ci_6 rfl (zX_goto (p := 18) d_267_1429 (by decide) ?_)
          exact ih (x1 + (6 : Int32)) M2
        · refine zX_ic (p := 1327) d_267_1326 ci_0 rfl ?_
          exact zX_retmb d_267_1327 rt_267 (Or.inl rfl)
      refine zX_ite (fun hs33_36 => ?_) (fun hs33_36 => ?_)
      · refine zX_tsh (p := 1328) (n := 36) d_267_33 hs33_36 (by decide) (by decide) (by decide) rfl (by decide) ?_
        refine zX_aln1 (p := 1329) d_267_1328 rfl (zX_aln0 (p := 1330) d_267_1329 rfl (zX_iln3 (p := 1331) d_267_1330 rfl (zX_ic (p := 1332) d_267_1331 ci_1 rfl (zX_add (p := 1333) d_267_1332 rfl (zX_sa (p := 1334) d_267_1333 rfl (zX_cV1i (p := 1337) ⟨ow_136, by decide⟩ zo_0 d_267_1334 ow_267 rs_11_168 kk_136 rfl (s136 hL) rfl rfl rfl rfl (fun v123 => ?_)))))))
        refine zX_aln2 (p := 1338) d_267_1337 rfl (zX_aln0 (p := 1339) d_267_1338 rfl (zX_iln3 (p := 1340) d_267_1339 rfl (zX_ic (p := 1341) d_267_1340 ci_1 rfl (zX_add (p := 1342) d_267_1341 rfl (zX_sa (p := 1343) d_267_1342 rfl (zX_cV1i (p := 1346) ⟨ow_263, by decide⟩ zo_148 d_267_1343 ow_267 rs_11_171 kk_263 rfl (s263 hL) rfl rfl rfl rfl (fun v124 => ?_)))))))
        refine zX_ceq (p1 := 1426) (p2 := 1349) d_267_1346 (by decide) rfl ?_ ?_
        · refine zX_ii3 (p := 1429) d_267_1426 ci_6 rfl (zX_goto (p := 18) d_267_1429 (by decide) ?_)
          exact ih (x1 + (6 : Int32)) M2
        · refine zX_ic (p := 1350) d_267_1349 ci_0 rfl ?_
          exact zX_retmb d_267_1350 rt_267 (Or.inl rfl)
      refine zX_ite (fun hs33_37 => ?_) (fun hs33_37 => ?_)
      · refine zX_tsh (p := 1351) (n := 37) d_267_33 hs33_37 (by decide) (by decide) (by decide) rfl (by decide) ?_
        refine zX_aln1 (p := 1352) d_267_1351 rfl (zX_cV0m (p := 1355) ⟨ow_138, by decide⟩ zo_0 d_267_1352 ow_267 rs_11_172 kk_138 rfl (s138 hL) rfl rfl rfl rfl (fun v125 M126 => ?_))
        try dsimp only
        refine zX_aln2 (p := 1356) d_267_1355 rfl (zX_cV0m (p := 1359) ⟨ow_198, by decide⟩ zo_148 d_267_1356 ow_267 rs_11_176 kk_198 rfl (s198 hL) rfl rfl rfl rfl (fun v127 M128 => ?_))
        try dsimp only
        refine zX_ceq (p1 := 1426) (p2 := 1362) d_267_1359 (by decide) rfl ?_ ?_
        · refine zX_ii3 (p := 1429) d_267_1426 ci_6 rfl (zX_goto (p := 18) d_267_1429 (by decide) ?_)
          exact ih (x1 + (6 : Int32)) M128
        · refine zX_ic (p := 1363) d_267_1362 ci_0 rfl ?_
          exact zX_retmb d_267_1363 rt_267 (Or.inl rfl)
      refine zX_ite (fun hs33_38 => ?_) (fun hs33_38 => ?_)
      · refine zX_tsh (p := 1364) (n := 38) d_267_33 hs33_38 (by decide) (by decide) (by decide) rfl (by decide) ?_
        refine zX_aln1 (p := 1365) d_267_1364 rfl (zX_aln0 (p := 1366) d_267_1365 rfl (zX_iln3 (p := 1367) d_267_1366 rfl (zX_ic (p := 1368) d_267_1367 ci_1 rfl (zX_add (p := 1369) d_267_1368 rfl (zX_sa (p := 1370) d_267_1369 rfl ?_)))))
        refine zX_bind (σ := Unit) (β := Int32) (pj := 1378) (lj := fun (b : Int32) (s : Unit) => [.val (.ref 1000000), .val (.ref 0), .val (.ref 148), .val (.int x1)]) (sj := fun b => [.int b, .ref 0]) (mj := fun b => M2) ?_ ?_
        · refine zX_zeq (p1 := 1377) (p2 := 1373) d_267_1370 (by decide) rfl ?_ ?_
          · refine zX_ic (p := 1378) d_267_1377 ci_0 rfl ?_
            exact zX_leaf (fun _ _ h => h ())
          · refine zX_ic (p := 1374) d_267_1373 ci_1 rfl (zX_goto (p := 1378) d_267_1374 (by decide) ?_)
            exact zX_leaf (fun _ _ h => h ())
        · rintro v129 _
          try dsimp only
          refine zX_cV1m (p := 1381) ⟨ow_139, by decide⟩ zo_0 d_267_1378 ow_267 rs_11_177 kk_139 rfl (s139 hL) rfl rfl rfl rfl (fun v130 M131 => ?_)
          try dsimp only
          refine zX_aln2 (p := 1382) d_267_1381 rfl (zX_aln0 (p := 1383) d_267_1382 rfl (zX_iln3 (p := 1384) d_267_1383 rfl (zX_ic (p := 1385) d_267_1384 ci_1 rfl (zX_add (p := 1386) d_267_1385 rfl (zX_sa (p := 1387) d_267_1386 rfl ?_)))))
          refine zX_bind (σ := Unit) (β := Int32) (pj := 1395) (lj := fun (b : Int32) (s : Unit) => [.val (.ref 1000000), .val (.ref 0), .val (.ref 148), .val (.int x1)]) (sj := fun b => [.int b, .ref 148, .int v130]) (mj := fun b => M131) ?_ ?_
          · refine zX_zeq (p1 := 1394) (p2 := 1390) d_267_1387 (by decide) rfl ?_ ?_
            · refine zX_ic (p := 1395) d_267_1394 ci_0 rfl ?_
              exact zX_leaf (fun _ _ h => h ())
            · refine zX_ic (p := 1391) d_267_1390 ci_1 rfl (zX_goto (p := 1395) d_267_1391 (by decide) ?_)
              exact zX_leaf (fun _ _ h => h ())
          · rintro v132 _
            try dsimp only
            refine zX_cV1m (p := 1398) ⟨ow_265, by decide⟩ zo_148 d_267_1395 ow_267 rs_11_181 kk_265 rfl (s265 hL) rfl rfl rfl rfl (fun v133 M134 => ?_)
            try dsimp only
            refine zX_ceq (p1 := 1426) (p2 := 1401) d_267_1398 (by decide) rfl ?_ ?_
            · refine zX_ii3 (p := 1429) d_267_1426 ci_6 rfl (zX_goto (p := 18) d_267_1429 (by decide) ?_)
              exact ih (x1 + (6 : Int32)) M134
            · refine zX_ic (p := 1402) d_267_1401 ci_0 rfl ?_
              exact zX_retmb d_267_1402 rt_267 (Or.inl rfl)
      refine zX_ite (fun hs33_39 => ?_) (fun hs33_39 => ?_)
      · refine zX_tsh (p := 1403) (n := 39) d_267_33 hs33_39 (by decide) (by decide) (by decide) rfl (by decide) ?_
        refine zX_aln1 (p := 1404) d_267_1403 rfl (zX_aln0 (p := 1405) d_267_1404 rfl (zX_iln3 (p := 1406) d_267_1405 rfl (zX_ic (p := 1407) d_267_1406 ci_1 rfl (zX_add (p := 1408) d_267_1407 rfl (zX_sa (p := 1409) d_267_1408 rfl (zX_cV1m (p := 1412) ⟨ow_143, by decide⟩ zo_0 d_267_1409 ow_267 rs_11_182 kk_143 rfl (s143 hL) rfl rfl rfl rfl (fun v135 M136 => ?_)))))))
        try dsimp only
        refine zX_aln2 (p := 1413) d_267_1412 rfl (zX_aln0 (p := 1414) d_267_1413 rfl (zX_iln3 (p := 1415) d_267_1414 rfl (zX_ic (p := 1416) d_267_1415 ci_1 rfl (zX_add (p := 1417) d_267_1416 rfl (zX_sa (p := 1418) d_267_1417 rfl (zX_cV1m (p := 1421) ⟨ow_266, by decide⟩ zo_148 d_267_1418 ow_267 rs_11_185 kk_266 rfl (s266 hL) rfl rfl rfl rfl (fun v137 M138 => ?_)))))))
        try dsimp only
        refine zX_ceq (p1 := 1426) (p2 := 1424) d_267_1421 (by decide) rfl ?_ ?_
        · refine zX_ii3 (p := 1429) d_267_1426 ci_6 rfl (zX_goto (p := 18) d_267_1429 (by decide) ?_)
          exact ih (x1 + (6 : Int32)) M138
        · refine zX_ic (p := 1425) d_267_1424 ci_0 rfl ?_
          exact zX_retmb d_267_1425 rt_267 (Or.inl rfl)
      have hz33 : (((q.1.2 (zi x1)) &&& (63 : Int32)) : Int32).toInt < 0 ∨ 39 < (((q.1.2 (zi x1)) &&& (63 : Int32)) : Int32).toInt := by
        have := zne_i (n := 0) (by decide) hs33_0
        have := zne_i (n := 1) (by decide) hs33_1
        have := zne_i (n := 2) (by decide) hs33_2
        have := zne_i (n := 3) (by decide) hs33_3
        have := zne_i (n := 4) (by decide) hs33_4
        have := zne_i (n := 5) (by decide) hs33_5
        have := zne_i (n := 6) (by decide) hs33_6
        have := zne_i (n := 7) (by decide) hs33_7
        have := zne_i (n := 8) (by decide) hs33_8
        have := zne_i (n := 9) (by decide) hs33_9
        have := zne_i (n := 10) (by decide) hs33_10
        have := zne_i (n := 11) (by decide) hs33_11
        have := zne_i (n := 12) (by decide) hs33_12
        have := zne_i (n := 13) (by decide) hs33_13
        have := zne_i (n := 14) (by decide) hs33_14
        have := zne_i (n := 15) (by decide) hs33_15
        have := zne_i (n := 16) (by decide) hs33_16
        have := zne_i (n := 17) (by decide) hs33_17
        have := zne_i (n := 18) (by decide) hs33_18
        have := zne_i (n := 19) (by decide) hs33_19
        have := zne_i (n := 20) (by decide) hs33_20
        have := zne_i (n := 21) (by decide) hs33_21
        have := zne_i (n := 22) (by decide) hs33_22
        have := zne_i (n := 23) (by decide) hs33_23
        have := zne_i (n := 24) (by decide) hs33_24
        have := zne_i (n := 25) (by decide) hs33_25
        have := zne_i (n := 26) (by decide) hs33_26
        have := zne_i (n := 27) (by decide) hs33_27
        have := zne_i (n := 28) (by decide) hs33_28
        have := zne_i (n := 29) (by decide) hs33_29
        have := zne_i (n := 30) (by decide) hs33_30
        have := zne_i (n := 31) (by decide) hs33_31
        have := zne_i (n := 32) (by decide) hs33_32
        have := zne_i (n := 33) (by decide) hs33_33
        have := zne_i (n := 34) (by decide) hs33_34
        have := zne_i (n := 35) (by decide) hs33_35
        have := zne_i (n := 36) (by decide) hs33_36
        have := zne_i (n := 37) (by decide) hs33_37
        have := zne_i (n := 38) (by decide) hs33_38
        have := zne_i (n := 39) (by decide) hs33_39
        omega
      refine zX_tsd (p := 1426) d_267_33 hz33 (by decide) ?_
      refine zX_ii3 (p := 1429) d_267_1426 ci_6 rfl (zX_goto (p := 18) d_267_1429 (by decide) ?_)
      exact ih (x1 + (6 : Int32)) M2
