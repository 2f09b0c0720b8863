-- ===== FACTS that the walks of the law's methods and the JDK's name =====
def gnr (t : FieldType) (v : Int32) : Bool := match narrow t (.int v) with
  | .int w => decide (w = v)
  | _ => false
theorem gnr_sp {t : FieldType} {v : Int32} (h : gnr t v = true) : narrow t (.int v) = .int v := by
  unfold gnr at h
  split at h
  · rename_i w hw
    rw [hw, of_decide_eq_true h]
  · cases h
def zgr : Nat := 20
theorem zG_nuo {α : Type} {sc : ZS} {d y pc p1 p2 : Nat} {ls : List Slot} {st : List Value} {M : ZI} {R : ZF} {L : ZY} {E : α → Option Value → ZH → Prop} {x : Option Nat} {a : Option α} {f : Nat → Option α} {off : Int} (hd : zdec y pc = some (.ifnull off, 3)) (hp : (pc : Int) + off = (p1 : Int)) (hq : pc + 3 = p2) (h1 : x = none → zG sc d y p1 ls st (M, R, L) a E) (h2 : ∀ r, x = some r → zG sc d y p2 ls st (M, R, L) (f r) E) : zG sc d y pc ls (va_rf x :: st) (M, R, L) (zopt x a f) E := by
  cases x with
  | none => exact zG_nu_null hd hp (h1 rfl)
  | some r => exact zG_nu_ref hd hq (h2 r rfl)
theorem zG_nno {α : Type} {sc : ZS} {d y pc p1 p2 : Nat} {ls : List Slot} {st : List Value} {M : ZI} {R : ZF} {L : ZY} {E : α → Option Value → ZH → Prop} {x : Option Nat} {a : Option α} {f : Nat → Option α} {off : Int} (hd : zdec y pc = some (.ifnonnull off, 3)) (hp : (pc : Int) + off = (p1 : Int)) (hq : pc + 3 = p2) (h1 : x = none → zG sc d y p2 ls st (M, R, L) a E) (h2 : ∀ r, x = some r → zG sc d y p1 ls st (M, R, L) (f r) E) : zG sc d y pc ls (va_rf x :: st) (M, R, L) (zopt x a f) E := by
  cases x with
  | none => exact zG_nn_null hd hq (h1 rfl)
  | some r => exact zG_nn_ref hd hp (h2 r rfl)
theorem zG_akn3 {α : Type} {sc : ZS} {d y pc p : Nat} {M : ZI} {R : ZF} {L : ZY} {E : α → Option Value → ZH → Prop} {o : Option α} {s0 s1 s2 : Slot} {tl : List Slot} {st : List Value} {x : Option Nat} {r : Nat} (hd : zdec y pc = some (.aload_n 3, 1)) (hp : pc + 1 = p) (hx : x = some r) (k : zG sc d y p (s0 :: s1 :: s2 :: .val (va_rf x) :: tl) (.ref r :: st) (M, R, L) o E) : zG sc d y pc (s0 :: s1 :: s2 :: .val (va_rf x) :: tl) st (M, R, L) o E := by
  subst hx
  exact zG_aln3 hd hp k
theorem gf2_10_7 : zfld 10 7 = some (10, 3) ∧ 3 < zN 10 ∧ ¬ zfk 10 3 = 2 := by decide +kernel
theorem gf2_10_13 : zfld 10 13 = some (10, 4) ∧ 4 < zN 10 ∧ ¬ zfk 10 4 = 2 := by decide +kernel
theorem gf2_10_18 : zfld 10 18 = some (10, 10) ∧ 10 < zN 10 ∧ zfk 10 10 = 2 := by decide +kernel
theorem gf2_10_22 : zfld 10 22 = some (10, 11) ∧ 11 < zN 10 ∧ zfk 10 11 = 2 := by decide +kernel
theorem gf2_10_25 : zfld 10 25 = some (10, 12) ∧ 12 < zN 10 ∧ zfk 10 12 = 2 := by decide +kernel
theorem gf2_10_29 : zfld 10 29 = some (10, 0) ∧ 0 < zN 10 ∧ ¬ zfk 10 0 = 2 := by decide +kernel
theorem gf2_10_32 : zfld 10 32 = some (10, 1) ∧ 1 < zN 10 ∧ ¬ zfk 10 1 = 2 := by decide +kernel
theorem gf2_10_35 : zfld 10 35 = some (10, 2) ∧ 2 < zN 10 ∧ ¬ zfk 10 2 = 2 := by decide +kernel
theorem gf2_10_38 : zfld 10 38 = some (10, 5) ∧ 5 < zN 10 ∧ ¬ zfk 10 5 = 2 := by decide +kernel
theorem gf2_10_41 : zfld 10 41 = some (10, 6) ∧ 6 < zN 10 ∧ ¬ zfk 10 6 = 2 := by decide +kernel
theorem gf2_10_44 : zfld 10 44 = some (10, 7) ∧ 7 < zN 10 ∧ ¬ zfk 10 7 = 2 := by decide +kernel
theorem gf2_10_47 : zfld 10 47 = some (10, 8) ∧ 8 < zN 10 ∧ ¬ zfk 10 8 = 2 := by decide +kernel
theorem gf2_10_50 : zfld 10 50 = some (10, 9) ∧ 9 < zN 10 ∧ ¬ zfk 10 9 = 2 := by decide +kernel
theorem gf2_10_53 : zfld 10 53 = some (10, 13) ∧ 13 < zN 10 ∧ zfk 10 13 = 2 := by decide +kernel
theorem gf2_10_57 : zfld 10 57 = some (10, 14) ∧ 14 < zN 10 ∧ zfk 10 14 = 2 := by decide +kernel
theorem gf2_12_9 : zfld 12 9 = some (12, 0) ∧ 0 < zN 12 ∧ zfk 12 0 = 2 := by decide +kernel
theorem gf2_12_15 : zfld 12 15 = some (12, 1) ∧ 1 < zN 12 ∧ ¬ zfk 12 1 = 2 := by decide +kernel
theorem gf2_12_1048 : zfld 12 1048 = some (11, 2) ∧ 2 < zN 11 ∧ ¬ zfk 11 2 = 2 := by decide +kernel
theorem gf2_13_7 : zfld 13 7 = some (13, 0) ∧ 0 < zN 13 ∧ ¬ zfk 13 0 = 2 := by decide +kernel
theorem gf2_13_13 : zfld 13 13 = some (13, 1) ∧ 1 < zN 13 ∧ ¬ zfk 13 1 = 2 := by decide +kernel
theorem gf2_13_16 : zfld 13 16 = some (13, 2) ∧ 2 < zN 13 ∧ zfk 13 2 = 2 := by decide +kernel
theorem gf2_13_20 : zfld 13 20 = some (13, 3) ∧ 3 < zN 13 ∧ zfk 13 3 = 2 := by decide +kernel
theorem gf2_14_40 : zfld 14 40 = some (10, 7) ∧ 7 < zN 10 ∧ ¬ zfk 10 7 = 2 := by decide +kernel
theorem gf2_14_46 : zfld 14 46 = some (10, 10) ∧ 10 < zN 10 ∧ zfk 10 10 = 2 := by decide +kernel
theorem gf2_14_81 : zfld 14 81 = some (10, 11) ∧ 11 < zN 10 ∧ zfk 10 11 = 2 := by decide +kernel
theorem gf2_14_84 : zfld 14 84 = some (10, 9) ∧ 9 < zN 10 ∧ ¬ zfk 10 9 = 2 := by decide +kernel
theorem gf2_14_108 : zfld 14 108 = some (10, 13) ∧ 13 < zN 10 ∧ zfk 10 13 = 2 := by decide +kernel
theorem gf2_14_122 : zfld 14 122 = some (10, 14) ∧ 14 < zN 10 ∧ zfk 10 14 = 2 := by decide +kernel
theorem gf2_14_154 : zfld 14 154 = some (10, 2) ∧ 2 < zN 10 ∧ ¬ zfk 10 2 = 2 := by decide +kernel
theorem gf2_14_157 : zfld 14 157 = some (10, 3) ∧ 3 < zN 10 ∧ ¬ zfk 10 3 = 2 := by decide +kernel
theorem gf2_14_160 : zfld 14 160 = some (10, 4) ∧ 4 < zN 10 ∧ ¬ zfk 10 4 = 2 := by decide +kernel
theorem gf2_14_170 : zfld 14 170 = some (10, 0) ∧ 0 < zN 10 ∧ ¬ zfk 10 0 = 2 := by decide +kernel
theorem gf2_15_15 : zfld 15 15 = some (11, 0) ∧ 0 < zN 11 ∧ zfk 11 0 = 2 := by decide +kernel
theorem gf2_15_22 : zfld 15 22 = some (11, 1) ∧ 1 < zN 11 ∧ ¬ zfk 11 1 = 2 := by decide +kernel
theorem gf2_15_79 : zfld 15 79 = some (11, 3) ∧ 3 < zN 11 ∧ ¬ zfk 11 3 = 2 := by decide +kernel
theorem rs2_10_1 : zres 10 1 = some 1003 := by decide +kernel
theorem rs2_10_28 : zres 10 28 = some 97 := by decide +kernel
theorem rs2_10_60 : zres 10 60 = some 1004 := by decide +kernel
theorem rs2_10_66 : zres 10 66 = some 103 := by decide +kernel
theorem rs2_10_72 : zres 10 72 = some 28 := by decide +kernel
theorem rs2_10_78 : zres 10 78 = some 106 := by decide +kernel
theorem rs2_10_84 : zres 10 84 = some 102 := by decide +kernel
theorem rs2_10_87 : zres 10 87 = some 101 := by decide +kernel
theorem rs2_10_90 : zres 10 90 = some 104 := by decide +kernel
theorem rs2_10_93 : zres 10 93 = some 105 := by decide +kernel
theorem rs2_10_94 : zres 10 94 = some 108 := by decide +kernel
theorem rs2_10_98 : zres 10 98 = some 109 := by decide +kernel
theorem rs2_10_101 : zres 10 101 = some 1001 := by decide +kernel
theorem rs2_10_106 : zres 10 106 = some 99 := by decide +kernel
theorem rs2_10_110 : zres 10 110 = some 100 := by decide +kernel
theorem rs2_10_114 : zres 10 114 = some 107 := by decide +kernel
theorem rs2_10_117 : zres 10 117 = some 110 := by decide +kernel
theorem rs2_10_119 : zres 10 119 = some 111 := by decide +kernel
theorem rs2_10_122 : zres 10 122 = some 1002 := by decide +kernel
theorem rs2_10_125 : zres 10 125 = some 112 := by decide +kernel
theorem rs2_10_128 : zres 10 128 = some 92 := by decide +kernel
theorem rs2_10_133 : zres 10 133 = some 94 := by decide +kernel
theorem rs2_10_137 : zres 10 137 = some 95 := by decide +kernel
theorem rs2_10_139 : zres 10 139 = some 96 := by decide +kernel
theorem rs2_10_142 : zres 10 142 = some 143 := by decide +kernel
theorem rs2_11_1 : zres 11 1 = some 118 := by decide +kernel
theorem rs2_11_29 : zres 11 29 = some 129 := by decide +kernel
theorem rs2_11_53 : zres 11 53 = some 120 := by decide +kernel
theorem rs2_11_137 : zres 11 137 = some 134 := by decide +kernel
theorem rs2_11_343 : zres 11 343 = some 139 := by decide +kernel
theorem rs2_12_1 : zres 12 1 = some 1003 := by decide +kernel
theorem rs2_12_54 : zres 12 54 = some 140 := by decide +kernel
theorem rs2_12_212 : zres 12 212 = some 1000 := by decide +kernel
theorem rs2_12_335 : zres 12 335 = some 58 := by decide +kernel
theorem rs2_12_489 : zres 12 489 = some 135 := by decide +kernel
theorem rs2_12_492 : zres 12 492 = some 60 := by decide +kernel
theorem rs2_12_495 : zres 12 495 = some 61 := by decide +kernel
theorem rs2_12_549 : zres 12 549 = some 139 := by decide +kernel
theorem rs2_12_552 : zres 12 552 = some 136 := by decide +kernel
theorem rs2_12_1047 : zres 12 1047 = some 126 := by decide +kernel
theorem rs2_12_1059 : zres 12 1059 = some 63 := by decide +kernel
theorem rs2_13_1 : zres 13 1 = some 1003 := by decide +kernel
theorem rs2_13_23 : zres 13 23 = some 28 := by decide +kernel
theorem rs2_13_29 : zres 13 29 = some 106 := by decide +kernel
theorem rs2_13_35 : zres 13 35 = some 117 := by decide +kernel
theorem rs2_13_38 : zres 13 38 = some 128 := by decide +kernel
theorem rs2_13_42 : zres 13 42 = some 119 := by decide +kernel
theorem rs2_13_45 : zres 13 45 = some 133 := by decide +kernel
theorem rs2_13_51 : zres 13 51 = some 149 := by decide +kernel
theorem rs2_13_63 : zres 13 63 = some 150 := by decide +kernel
theorem rs2_14_8 : zres 14 8 = some 1002 := by decide +kernel
theorem rs2_14_14 : zres 14 14 = some 1001 := by decide +kernel
theorem rs2_14_17 : zres 14 17 = some 57 := by decide +kernel
theorem rs2_14_23 : zres 14 23 = some 59 := by decide +kernel
theorem rs2_14_27 : zres 14 27 = some 48 := by decide +kernel
theorem rs2_14_33 : zres 14 33 = some 51 := by decide +kernel
theorem rs2_14_39 : zres 14 39 = some 117 := by decide +kernel
theorem rs2_14_50 : zres 14 50 = some 115 := by decide +kernel
theorem rs2_14_56 : zres 14 56 = some 119 := by decide +kernel
theorem rs2_14_62 : zres 14 62 = some 128 := by decide +kernel
theorem rs2_14_67 : zres 14 67 = some 133 := by decide +kernel
theorem rs2_14_71 : zres 14 71 = some 145 := by decide +kernel
theorem rs2_14_75 : zres 14 75 = some 52 := by decide +kernel
theorem rs2_14_101 : zres 14 101 = some 148 := by decide +kernel
theorem rs2_14_104 : zres 14 104 = some 147 := by decide +kernel
theorem rs2_14_111 : zres 14 111 = some 149 := by decide +kernel
theorem rs2_14_114 : zres 14 114 = some 150 := by decide +kernel
theorem rs2_14_117 : zres 14 117 = some 97 := by decide +kernel
theorem rs2_14_118 : zres 14 118 = some 114 := by decide +kernel
theorem rs2_14_141 : zres 14 141 = some 12 := by decide +kernel
theorem rs2_14_143 : zres 14 143 = some 92 := by decide +kernel
theorem rs2_14_146 : zres 14 146 = some 15 := by decide +kernel
theorem rs2_14_150 : zres 14 150 = some 18 := by decide +kernel
theorem rs2_14_163 : zres 14 163 = some 116 := by decide +kernel
theorem rs2_14_167 : zres 14 167 = some 146 := by decide +kernel
theorem rs2_14_173 : zres 14 173 = some 10 := by decide +kernel
theorem rs2_14_176 : zres 14 176 = some 151 := by decide +kernel
theorem rs2_14_180 : zres 14 180 = some 113 := by decide +kernel
theorem rs2_14_184 : zres 14 184 = some 91 := by decide +kernel
theorem rs2_14_188 : zres 14 188 = some 98 := by decide +kernel
theorem rs2_14_192 : zres 14 192 = some 24 := by decide +kernel
theorem rs2_14_195 : zres 14 195 = some 22 := by decide +kernel
theorem rs2_14_198 : zres 14 198 = some 138 := by decide +kernel
theorem rs2_14_202 : zres 14 202 = some 143 := by decide +kernel
theorem rs2_14_205 : zres 14 205 = some 94 := by decide +kernel
theorem rs2_14_209 : zres 14 209 = some 96 := by decide +kernel
theorem rs2_15_3 : zres 15 3 = some 1003 := by decide +kernel
theorem rs2_15_32 : zres 15 32 = some 57 := by decide +kernel
theorem rs2_15_40 : zres 15 40 = some 58 := by decide +kernel
theorem rs2_15_83 : zres 15 83 = some 126 := by decide +kernel
theorem rs2_15_100 : zres 15 100 = some 122 := by decide +kernel
theorem rs2_15_104 : zres 15 104 = some 123 := by decide +kernel
theorem rs2_15_108 : zres 15 108 = some 125 := by decide +kernel
theorem rs2_15_114 : zres 15 114 = some 124 := by decide +kernel
theorem rs2_15_208 : zres 15 208 = some 130 := by decide +kernel
theorem rs2_15_245 : zres 15 245 = some 121 := by decide +kernel
theorem rs2_15_248 : zres 15 248 = some 127 := by decide +kernel
theorem rs2_15_397 : zres 15 397 = some 131 := by decide +kernel
theorem rs2_15_399 : zres 15 399 = some 132 := by decide +kernel
theorem rs2_17_9 : zres 17 9 = some 62 := by decide +kernel
theorem rs2_18_150 : zres 18 150 = some 1000 := by decide +kernel
theorem rs2_18_304 : zres 18 304 = some 1002 := by decide +kernel
theorem rs2_18_310 : zres 18 310 = some 1005 := by decide +kernel
theorem rs2_18_339 : zres 18 339 = some 141 := by decide +kernel
theorem rs2_18_343 : zres 18 343 = some 142 := by decide +kernel
theorem rs2_19_194 : zres 19 194 = some 1001 := by decide +kernel
theorem st_13_36 : zstr 13 36 = some 9 := by decide +kernel
theorem st_13_49 : zstr 13 49 = some 10 := by decide +kernel
theorem st_13_55 : zstr 13 55 = some 11 := by decide +kernel
theorem st_13_57 : zstr 13 57 = some 12 := by decide +kernel
theorem st_13_59 : zstr 13 59 = some 13 := by decide +kernel
theorem st_13_61 : zstr 13 61 = some 14 := by decide +kernel
theorem st_14_60 : zstr 14 60 = some 1 := by decide +kernel
theorem st_14_65 : zstr 14 65 = some 2 := by decide +kernel
theorem st_14_87 : zstr 14 87 = some 3 := by decide +kernel
theorem st_14_89 : zstr 14 89 = some 4 := by decide +kernel
theorem st_14_91 : zstr 14 91 = some 5 := by decide +kernel
theorem st_14_93 : zstr 14 93 = some 6 := by decide +kernel
theorem st_14_95 : zstr 14 95 = some 7 := by decide +kernel
theorem st_14_97 : zstr 14 97 = some 8 := by decide +kernel
theorem st_14_125 : zstr 14 125 = some 15 := by decide +kernel
theorem st_14_127 : zstr 14 127 = some 16 := by decide +kernel
theorem st_14_129 : zstr 14 129 = some 17 := by decide +kernel
theorem st_14_131 : zstr 14 131 = some 18 := by decide +kernel
theorem st_14_133 : zstr 14 133 = some 19 := by decide +kernel
theorem st_14_135 : zstr 14 135 = some 20 := by decide +kernel
theorem st_14_137 : zstr 14 137 = some 21 := by decide +kernel
theorem st_14_139 : zstr 14 139 = some 22 := by decide +kernel
theorem kn_10_64 : zcon 10 64 = some (1664525 : Int32) := by decide +kernel
theorem kn_10_65 : zcon 10 65 = some (1013904223 : Int32) := by decide +kernel
theorem kn_14_7 : zcon 14 7 = some (1048575 : Int32) := by decide +kernel
theorem kn_15_39 : zcon 15 39 = some (2147483647 : Int32) := by decide +kernel
theorem kn_19_200 : zcon 19 200 = some (2147483639 : Int32) := by decide +kernel
theorem ks_10_64 : zstr 10 64 = none := by decide +kernel
theorem ks_10_65 : zstr 10 65 = none := by decide +kernel
theorem ks_14_7 : zstr 14 7 = none := by decide +kernel
theorem ks_15_39 : zstr 15 39 = none := by decide +kernel
theorem ks_19_200 : zstr 19 200 = none := by decide +kernel
theorem sta_12_38 : zsta 12 38 = some 0 := by decide +kernel
theorem sta_12_1053 : zsta 12 1053 = some 1 := by decide +kernel
theorem sta_15_18 : zsta 15 18 = some 0 := by decide +kernel
theorem sta_16_83 : zsta 16 83 = some 2 := by decide +kernel
theorem sta_16_87 : zsta 16 87 = some 3 := by decide +kernel
theorem fo_91_10_0 : zfo 91 10 0 = true := by decide +kernel
theorem fo_91_10_1 : zfo 91 10 1 = true := by decide +kernel
theorem fo_91_10_2 : zfo 91 10 2 = true := by decide +kernel
theorem fo_91_10_3 : zfo 91 10 3 = true := by decide +kernel
theorem fo_91_10_4 : zfo 91 10 4 = true := by decide +kernel
theorem fo_91_10_5 : zfo 91 10 5 = true := by decide +kernel
theorem fo_91_10_6 : zfo 91 10 6 = true := by decide +kernel
theorem fo_91_10_7 : zfo 91 10 7 = true := by decide +kernel
theorem fo_91_10_8 : zfo 91 10 8 = true := by decide +kernel
theorem fo_91_10_9 : zfo 91 10 9 = true := by decide +kernel
theorem fo_91_10_11 : zfo 91 10 11 = true := by decide +kernel
theorem fo_91_10_13 : zfo 91 10 13 = true := by decide +kernel
theorem fo_91_10_14 : zfo 91 10 14 = true := by decide +kernel
theorem fo_97_10_3 : zfo 97 10 3 = true := by decide +kernel
theorem fo_97_10_4 : zfo 97 10 4 = true := by decide +kernel
theorem fo_97_10_10 : zfo 97 10 10 = true := by decide +kernel
theorem fo_97_10_11 : zfo 97 10 11 = true := by decide +kernel
theorem fo_97_10_12 : zfo 97 10 12 = true := by decide +kernel
theorem fo_98_10_1 : zfo 98 10 1 = true := by decide +kernel
theorem fo_98_10_2 : zfo 98 10 2 = true := by decide +kernel
theorem fo_98_10_5 : zfo 98 10 5 = true := by decide +kernel
theorem fo_98_10_6 : zfo 98 10 6 = true := by decide +kernel
theorem fo_98_10_9 : zfo 98 10 9 = true := by decide +kernel
theorem fo_99_10_8 : zfo 99 10 8 = true := by decide +kernel
theorem fo_112_10_0 : zfo 112 10 0 = true := by decide +kernel
theorem fo_116_10_9 : zfo 116 10 9 = true := by decide +kernel
theorem fo_116_10_11 : zfo 116 10 11 = true := by decide +kernel
theorem fo_118_11_0 : zfo 118 11 0 = true := by decide +kernel
theorem fo_118_11_1 : zfo 118 11 1 = true := by decide +kernel
theorem fo_120_11_3 : zfo 120 11 3 = true := by decide +kernel
theorem fo_122_11_0 : zfo 122 11 0 = true := by decide +kernel
theorem fo_129_11_3 : zfo 129 11 3 = true := by decide +kernel
theorem fo_135_12_0 : zfo 135 12 0 = true := by decide +kernel
theorem fo_135_12_1 : zfo 135 12 1 = true := by decide +kernel
theorem fo_146_10_13 : zfo 146 10 13 = true := by decide +kernel
theorem fo_148_13_0 : zfo 148 13 0 = true := by decide +kernel
theorem fo_148_13_1 : zfo 148 13 1 = true := by decide +kernel
theorem fo_148_13_2 : zfo 148 13 2 = true := by decide +kernel
theorem fo_148_13_3 : zfo 148 13 3 = true := by decide +kernel
theorem fo_151_10_0 : zfo 151 10 0 = true := by decide +kernel
theorem fo_151_10_2 : zfo 151 10 2 = true := by decide +kernel
theorem fo_151_10_3 : zfo 151 10 3 = true := by decide +kernel
theorem fo_151_10_4 : zfo 151 10 4 = true := by decide +kernel
theorem fo_151_10_7 : zfo 151 10 7 = true := by decide +kernel
theorem fo_151_10_14 : zfo 151 10 14 = true := by decide +kernel
theorem fo_152_10_2 : zfo 152 10 2 = true := by decide +kernel
theorem fo_152_10_3 : zfo 152 10 3 = true := by decide +kernel
theorem fo_152_10_4 : zfo 152 10 4 = true := by decide +kernel
theorem fo_152_10_13 : zfo 152 10 13 = true := by decide +kernel
theorem nw_10_8 : znew 10 8 = some 10 ∧ 10 < zCL.length ∧ zN 10 = 15 ∧ 3 + 10 = 13 := by decide +kernel
theorem nw_11_18 : znew 11 18 = some 12 ∧ 12 < zCL.length ∧ zN 12 = 4 ∧ 3 + 12 = 15 := by decide +kernel
theorem nw_13_33 : znew 13 33 = some 11 ∧ 11 < zCL.length ∧ zN 11 = 4 ∧ 3 + 11 = 14 := by decide +kernel
theorem nw_14_37 : znew 14 37 = some 11 ∧ 11 < zCL.length ∧ zN 11 = 4 ∧ 3 + 11 = 14 := by decide +kernel
theorem nw_14_41 : znew 14 41 = some 10 ∧ 10 < zCL.length ∧ zN 10 = 15 ∧ 3 + 10 = 13 := by decide +kernel
theorem nw_14_99 : znew 14 99 = some 13 ∧ 13 < zCL.length ∧ zN 13 = 4 ∧ 3 + 13 = 16 := by decide +kernel
theorem ac_10_16 : zacl 10 16 = some 0 := by decide +kernel
theorem an_10_16 : znew 10 16 = none ∧ zacl 10 16 = some 0 := by decide +kernel
theorem an_14_41 : znew 14 41 = some 10 := by decide +kernel
theorem an_14_79 : znew 14 79 = none ∧ zacl 14 79 = some 0 := by decide +kernel
theorem ac_18_311 : zacl 18 311 = some 1 := by decide +kernel
theorem ci_20 : Int32.ofInt (20) = (20 : Int32) := by decide
theorem cb_m100 : (Int8.ofInt (-100)).toInt32 = (-100 : Int32) := by decide
theorem cb_m10 : (Int8.ofInt (-10)).toInt32 = (-10 : Int32) := by decide
theorem cb_m9 : (Int8.ofInt (-9)).toInt32 = (-9 : Int32) := by decide
theorem cb_11 : (Int8.ofInt (11)).toInt32 = (11 : Int32) := by decide
theorem cb_14 : (Int8.ofInt (14)).toInt32 = (14 : Int32) := by decide
theorem cb_15 : (Int8.ofInt (15)).toInt32 = (15 : Int32) := by decide
theorem cb_18 : (Int8.ofInt (18)).toInt32 = (18 : Int32) := by decide
theorem cb_25 : (Int8.ofInt (25)).toInt32 = (25 : Int32) := by decide
theorem cb_50 : (Int8.ofInt (50)).toInt32 = (50 : Int32) := by decide
theorem cb_101 : (Int8.ofInt (101)).toInt32 = (101 : Int32) := by decide
theorem cs_151 : (Int16.ofInt (151)).toInt32 = (151 : Int32) := by decide
theorem cs_211 : (Int16.ofInt (211)).toInt32 = (211 : Int32) := by decide
theorem cs_223 : (Int16.ofInt (223)).toInt32 = (223 : Int32) := by decide
theorem cs_227 : (Int16.ofInt (227)).toInt32 = (227 : Int32) := by decide
theorem cs_229 : (Int16.ofInt (229)).toInt32 = (229 : Int32) := by decide
theorem cs_233 : (Int16.ofInt (233)).toInt32 = (233 : Int32) := by decide
theorem cs_587 : (Int16.ofInt (587)).toInt32 = (587 : Int32) := by decide
theorem cs_593 : (Int16.ofInt (593)).toInt32 = (593 : Int32) := by decide
theorem vn_57 : zvir 57 = none := by decide +kernel
theorem vn_58 : zvir 58 = none := by decide +kernel
theorem vn_59 : zvir 59 = none := by decide +kernel
theorem vn_60 : zvir 60 = none := by decide +kernel
theorem vn_91 : zvir 91 = none := by decide +kernel
theorem vn_98 : zvir 98 = none := by decide +kernel
theorem vn_99 : zvir 99 = none := by decide +kernel
theorem vn_100 : zvir 100 = none := by decide +kernel
theorem vn_101 : zvir 101 = none := by decide +kernel
theorem vn_102 : zvir 102 = none := by decide +kernel
theorem vn_104 : zvir 104 = none := by decide +kernel
theorem vn_105 : zvir 105 = none := by decide +kernel
theorem vn_106 : zvir 106 = none := by decide +kernel
theorem vn_107 : zvir 107 = none := by decide +kernel
theorem vn_108 : zvir 108 = none := by decide +kernel
theorem vn_109 : zvir 109 = none := by decide +kernel
theorem vn_110 : zvir 110 = none := by decide +kernel
theorem vn_111 : zvir 111 = none := by decide +kernel
theorem vn_112 : zvir 112 = none := by decide +kernel
theorem vn_113 : zvir 113 = none := by decide +kernel
theorem vn_119 : zvir 119 = none := by decide +kernel
theorem vn_128 : zvir 128 = none := by decide +kernel
theorem vn_132 : zvir 132 = none := by decide +kernel
theorem vn_133 : zvir 133 = none := by decide +kernel
theorem vn_149 : zvir 149 = none := by decide +kernel
theorem vn_150 : zvir 150 = none := by decide +kernel
theorem kc_10 : zown 10 = 0 ∧ zdir 10 = true ∧ zvir 10 = none := by decide +kernel
theorem kc_12 : zown 12 = 0 ∧ zdir 12 = true ∧ zvir 12 = none := by decide +kernel
theorem kc_15 : zown 15 = 0 ∧ zdir 15 = true ∧ zvir 15 = none := by decide +kernel
theorem kc_18 : zown 18 = 0 ∧ zdir 18 = true ∧ zvir 18 = none := by decide +kernel
theorem kc_22 : zown 22 = 0 ∧ zdir 22 = true ∧ zvir 22 = none := by decide +kernel
theorem kc_24 : zown 24 = 0 ∧ zdir 24 = true ∧ zvir 24 = none := by decide +kernel
theorem kc_48 : zown 48 = 0 ∧ zdir 48 = true ∧ zvir 48 = none := by decide +kernel
theorem kc_51 : zown 51 = 0 ∧ zdir 51 = true ∧ zvir 51 = none := by decide +kernel
theorem kc_52 : zown 52 = 0 ∧ zdir 52 = true ∧ zvir 52 = none := by decide +kernel
theorem kc_92 : zown 92 = 0 ∧ zdir 92 = true ∧ zvir 92 = none := by decide +kernel
theorem kc_94 : zown 94 = 0 ∧ zdir 94 = true ∧ zvir 94 = none := by decide +kernel
theorem kc_95 : zown 95 = 0 ∧ zdir 95 = true ∧ zvir 95 = none := by decide +kernel
theorem kc_96 : zown 96 = 0 ∧ zdir 96 = true ∧ zvir 96 = none := by decide +kernel
theorem kc_138 : zown 138 = 0 ∧ zdir 138 = true ∧ zvir 138 = none := by decide +kernel
theorem kc_143 : zown 143 = 0 ∧ zdir 143 = true ∧ zvir 143 = none := by decide +kernel
theorem vk_122 : 122 < 152 ∧ zkind 122 = 1 ∧ znar 122 = 1 ∧ zvir 122 = some (122, true) := by decide +kernel
theorem vk_123 : 123 < 152 ∧ zkind 123 = 1 ∧ znar 123 = 1 ∧ zvir 123 = some (123, true) := by decide +kernel
theorem vk_126 : 126 < 152 ∧ zkind 126 = 1 ∧ znar 126 = 0 ∧ zvir 126 = some (126, false) := by decide +kernel
theorem vk_130 : 130 < 152 ∧ zkind 130 = 1 ∧ znar 130 = 2 ∧ zvir 130 = some (130, true) := by decide +kernel
theorem vk_131 : 131 < 152 ∧ zkind 131 = 1 ∧ znar 131 = 1 ∧ zvir 131 = some (131, true) := by decide +kernel
theorem vk_136 : 136 < 152 ∧ zkind 136 = 1 ∧ znar 136 = 0 ∧ zvir 136 = some (136, false) := by decide +kernel
theorem vk_139 : 139 < 152 ∧ zkind 139 = 1 ∧ znar 139 = 0 ∧ zvir 139 = some (137, false) := by decide +kernel
theorem ow_152 : zown 152 = 14 := rfl
theorem rt_152 : zret 152 = some .boolean := rfl
