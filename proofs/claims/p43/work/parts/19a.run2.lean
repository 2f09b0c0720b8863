-- ===== RUNS of the law's methods and the JDK's keep their functions =====
theorem s58 {sc : ZS} {d : Nat} {t : Nat} {M : ZI} {R : ZF} {L : ZY} : zG sc d 58 0 [.val (.ref t)] [] (M, R, L) (g58_coder t M R L) (gEi (M, R, L)) := by
  unfold g58_coder
  refine zG_stai (p := 3) d_58_0 ow_58 sta_12_38 rfl rfl ?_
  refine zG_zeq (p1 := 13) (p2 := 6) d_58_3 (by decide) rfl ?_ ?_
  · refine zG_ic (p := 14) d_58_13 ci_1 rfl (zG_grd fun hg1 => ?_)
    exact zG_retit d_58_14 rt_58 (gnr_sp hg1)
  · refine zG_aln0 (p := 7) d_58_6 rfl (zG_grd fun hg2 => (zG_sgi (p := 10) d_58_7 ow_58 rfl gf2_12_15 hg2 rfl (zG_goto (p := 14) d_58_10 (by decide) (zG_grd fun hg3 => ?_))))
    exact zG_retit d_58_14 rt_58 (gnr_sp hg3)

theorem s57 {sc : ZS} {d : Nat} {t : Nat} {M : ZI} {R : ZF} {L : ZY} : zG sc (d + 1) 57 0 [.val (.ref t)] [] (M, R, L) (g57_length t M R L) (gEi (M, R, L)) := by
  unfold g57_length
  refine zG_aln0 (p := 1) d_57_0 rfl (zG_grd fun hg1 => (zG_sgb (p := 4) d_57_1 ow_57 rfl gf2_12_9 hg1 rfl (fun r2 => ?_)))
  refine zG_grd fun hg3 => (zG_blen (p := 5) d_57_4 hg3 rfl (zG_aln0 (p := 6) d_57_5 rfl (zG_cV0i (p := 9) (c := 12) ⟨ow_58, by decide, zdr_58⟩ hg1 d_57_6 ow_57 rs2_12_335 kk_58 vn_58 rfl s58 rfl rfl rfl rfl (fun v4 => ?_))))
  refine zG_shr (p := 10) d_57_9 rfl ?_
  exact zG_reti d_57_10 rt_57

theorem s60 {sc : ZS} {d : Nat} {t : Nat} {M : ZI} {R : ZF} {L : ZY} : zG sc d 60 0 [.val (.ref t)] [] (M, R, L) (g60_isLatin1 t M R L) (gEi (M, R, L)) := by
  unfold g60_isLatin1
  refine zG_stai (p := 3) d_60_0 ow_60 sta_12_38 rfl rfl ?_
  refine zG_zeq (p1 := 17) (p2 := 6) d_60_3 (by decide) rfl ?_ ?_
  · refine zG_ic (p := 18) d_60_17 ci_0 rfl ?_
    exact zG_retib d_60_18 rt_60 rfl
  · refine zG_aln0 (p := 7) d_60_6 rfl (zG_grd fun hg1 => (zG_sgi (p := 10) d_60_7 ow_60 rfl gf2_12_15 hg1 rfl ?_))
    refine zG_zne (p1 := 17) (p2 := 13) d_60_10 (by decide) rfl ?_ ?_
    · refine zG_ic (p := 18) d_60_17 ci_0 rfl ?_
      exact zG_retib d_60_18 rt_60 rfl
    · refine zG_ic (p := 14) d_60_13 ci_1 rfl (zG_goto (p := 18) d_60_14 (by decide) ?_)
      exact zG_retib d_60_18 rt_60 rfl

theorem s63 {sc : ZS} {d : Nat} {a0 : Int32} {a1 : Int32} {M : ZI} {R : ZF} {L : ZY} : zG sc d 63 0 [.val (.int a0), .val (.int a1), .val (.retAddr 0)] [] (M, R, L) (g63_checkIndex a0 a1) (gEi (M, R, L)) := by
  unfold g63_checkIndex
  refine zG_iln0 (p := 1) d_63_0 rfl ?_
  refine zG_jn (P := fun g => ∀ (_ : Unit), zG sc d 63 9 [.val (.int a0), .val (.int a1), .val (.retAddr 0)] [] (M, R, L) (g ()) (gEi (M, R, L))) ?_ (fun j1 hj1 => ?_)
  · intro _
    try dsimp only
    exact zG_none
  · refine zG_zlt (p1 := 9) (p2 := 4) d_63_1 (by decide) rfl ?_ ?_
    · exact hj1 ()
    · refine zG_iln0 (p := 5) d_63_4 rfl (zG_iln1 (p := 6) d_63_5 rfl ?_)
      refine zG_clt (p1 := 16) (p2 := 9) d_63_6 (by decide) rfl ?_ ?_
      · refine zG_iln0 (p := 17) d_63_16 rfl ?_
        exact zG_reti d_63_17 rt_63
      · exact hj1 ()

theorem s62 {sc : ZS} {d : Nat} {a0 : Int32} {a1 : Int32} {M : ZI} {R : ZF} {L : ZY} : zG sc (d + 1) 62 0 [.val (.int a0), .val (.int a1)] [] (M, R, L) (g62_checkIndex a0 a1 M R L) gEv := by
  unfold g62_checkIndex
  refine zG_iln0 (p := 1) d_62_0 rfl (zG_iln1 (p := 2) d_62_1 rfl (zG_staz (p := 5) d_62_2 ow_62 sta_12_1053 rfl rfl (zG_cS3i (p := 8) d_62_5 ow_62 rs2_12_1059 kk_63 rfl s63 rfl rfl rfl rfl (fun v1 => ?_))))
  refine zG_pop (p := 9) d_62_8 rfl rfl ?_
  exact zG_retv d_62_9 rt_62

theorem s61 {sc : ZS} {d : Nat} {a0 : Nat} {a1 : Int32} {M : ZI} {R : ZF} {L : ZY} : zG sc (d + 2) 61 0 [.val (.ref a0), .val (.int a1)] [] (M, R, L) (g61_charAt a0 a1 M R L) gEm := by
  unfold g61_charAt
  refine zG_iln1 (p := 1) d_61_0 rfl (zG_aln0 (p := 2) d_61_1 rfl (zG_grd fun hg1 => (zG_blen (p := 3) d_61_2 hg1 rfl (zG_cS2v (p := 6) d_61_3 ow_61 rs2_17_9 kk_62 rfl s62 rfl rfl rfl rfl (fun M2 R3 L4 => ?_)))))
  try dsimp only
  refine zG_aln0 (p := 7) d_61_6 rfl (zG_iln1 (p := 8) d_61_7 rfl (zG_grd fun hg5 => (zG_ba (p := 9) d_61_8 hg5 rfl (zG_si (p := 12) d_61_9 cs_255 rfl (zG_and (p := 13) d_61_12 rfl (zG_i2c (p := 14) d_61_13 rfl (zG_grd fun hg6 => ?_)))))))
  exact zG_retmt d_61_14 rt_61 (gnr_sp hg6)

theorem s59 {sc : ZS} {d : Nat} {t : Nat} {a1 : Int32} {M : ZI} {R : ZF} {L : ZY} : zG sc (d + 3) 59 0 [.val (.ref t), .val (.int a1)] [] (M, R, L) (g59_charAt t a1 M R L) gEm := by
  unfold g59_charAt
  refine zG_aln0 (p := 1) d_59_0 rfl (zG_grd fun hg1 => (zG_cV0i (p := 4) (c := 12) ⟨ow_60, by decide, zdr_60⟩ hg1 d_59_1 ow_59 rs2_12_492 kk_60 vn_60 rfl s60 rfl rfl rfl rfl (fun v2 => ?_)))
  refine zG_zeq (p1 := 16) (p2 := 7) d_59_4 (by decide) rfl ?_ ?_
  · refine zG_aln0 (p := 17) d_59_16 rfl (zG_sgb (p := 20) d_59_17 ow_59 rfl gf2_12_9 hg1 rfl (fun r3 => ?_))
    refine zG_iln1 (p := 21) d_59_20 rfl ?_
    exact zG_none
  · refine zG_aln0 (p := 8) d_59_7 rfl (zG_sgb (p := 11) d_59_8 ow_59 rfl gf2_12_9 hg1 rfl (fun r4 => ?_))
    refine zG_iln1 (p := 12) d_59_11 rfl (zG_cS2m (p := 15) d_59_12 ow_59 rs2_12_495 kk_61 rfl s61 rfl rfl rfl rfl (fun v5 M6 R7 L8 => ?_))
    try dsimp only
    refine zG_grd fun hg9 => ?_
    exact zG_retmt d_59_15 rt_59 (gnr_sp hg9)

theorem s97 {sc : ZS} {d : Nat} {t : Nat} {M : ZI} {R : ZF} {L : ZY} : zG sc d 97 0 [.val (.ref t)] [] (M, R, L) (g97_init t M R L) gEv := by
  unfold g97_init
  refine zG_aln0 (p := 1) d_97_0 rfl (zG_grd fun hg1 => (zG_obj (p := 4) d_97_1 ow_97 rs2_10_1 hg1 rfl rfl (zG_aln0 (p := 5) d_97_4 rfl (zG_ic (p := 6) d_97_5 ci_2 rfl (zG_grd fun hg2 => (zG_pi (p := 9) d_97_6 ow_97 gf2_10_7 (Or.inl rfl) (Or.inl rfl) fo_97_10_3 hg2 rfl (fun M3 => ?_)))))))
  refine zG_aln0 (p := 10) d_97_9 rfl (zG_bi (p := 12) d_97_10 cb_12 rfl (zG_pi (p := 15) d_97_12 ow_97 gf2_10_13 (Or.inl rfl) (Or.inl rfl) fo_97_10_4 hg2 rfl (fun M4 => ?_)))
  refine zG_aln0 (p := 16) d_97_15 rfl (zG_bi (p := 18) d_97_16 cb_10 rfl (zG_grd fun hg5 => (zG_grd fun hg6 => (zG_nr51 (p := 21) d_97_18 ow_97 an_10_16 hg5 hg6 rfl (fun r7 M8 R9 L10 => ?_)))))
  refine zG_grd fun hg11 => (zG_grd fun hg12 => (zG_pr (p := 24) d_97_21 ow_97 gf2_10_18 fo_97_10_10 hg11 hg12 rfl (fun R13 => ?_)))
  refine zG_aln0 (p := 25) d_97_24 rfl (zG_ic (p := 26) d_97_25 ci_0 rfl (zG_grd fun hg14 => (zG_grd fun hg15 => (zG_nr51 (p := 29) d_97_26 ow_97 an_10_16 hg14 hg15 rfl (fun r16 M17 R18 L19 => ?_)))))
  refine zG_grd fun hg20 => (zG_grd fun hg21 => (zG_pr (p := 32) d_97_29 ow_97 gf2_10_22 fo_97_10_11 hg20 hg21 rfl (fun R22 => ?_)))
  refine zG_aln0 (p := 33) d_97_32 rfl (zG_si (p := 36) d_97_33 cs_150 rfl (zG_grd fun hg23 => (zG_grd fun hg24 => (zG_nr51 (p := 39) d_97_36 ow_97 an_10_16 hg23 hg24 rfl (fun r25 M26 R27 L28 => ?_)))))
  refine zG_grd fun hg29 => (zG_grd fun hg30 => (zG_pr (p := 42) d_97_39 ow_97 gf2_10_25 fo_97_10_12 hg29 hg30 rfl (fun R31 => ?_)))
  exact zG_retv d_97_42 rt_97

theorem s91_l114 {sc : ZS} {d : Nat} {t : Nat} {r2 : Nat} : ∀ (n : Nat) (x29 : Int32) (M30 : ZI) (R31 : ZF) (L32 : ZY), zG sc (d + 1) 91 114 [.val (.ref t), .val (.ref r2), .val (.int x29)] [] (M30, R31, L32) (g91_l114 t r2 n x29 M30 R31 L32) (gEj sc (d + 1) 91 146 (fun (b : ZI × ZF × ZY) (s : Slot) => [.val (.ref t), .val (.ref r2), s]) (fun b => []) (fun b => (b.1, b.2.1, b.2.2))) := by
  intro n
  induction n with
  | zero => intros; exact zG_none
  | succ n ih =>
    intro x29 M30 R31 L32
    rw [g91_l114]
    refine zG_iln2 (p := 115) d_91_114 rfl (zG_aln0 (p := 116) d_91_115 rfl (zG_grd fun hg33 => (zG_gi (p := 119) d_91_116 ow_91 gf2_10_44 hg33 rfl ?_)))
    refine zG_cge (p1 := 146) (p2 := 122) d_91_119 (by decide) rfl ?_ ?_
    · exact zG_leaf (fun _ _ h => h (.val (.int x29)))
    · refine zG_aln1 (p := 123) d_91_122 rfl (zG_grd fun hg34 => (zG_grb (p := 126) d_91_123 ow_91 gf2_10_18 hg34 rfl (fun r35 => ?_)))
      refine zG_iln2 (p := 127) d_91_126 rfl (zG_aln0 (p := 128) d_91_127 rfl (zG_grb (p := 131) d_91_128 ow_91 gf2_10_18 hg33 rfl (fun r36 => ?_)))
      refine zG_iln2 (p := 132) d_91_131 rfl (zG_grd fun hg37 => (zG_aa51 (p := 133) d_91_132 hg37 rfl (fun r38 => ?_)))
      refine zG_grd fun hg39 => (zG_grd fun hg40 => (zG_cl0 (p := 136) d_91_133 ow_91 rs2_10_60 hg39 hg40 rfl rfl (fun r41 M42 R43 L44 => ?_)))
      refine zG_grd fun hg45 => (zG_cast (p := 139) d_91_136 ow_91 ⟨ac_10_16, rfl⟩ hg45 rfl (zG_grd fun hg46 => (zG_grd fun hg47 => (zG_ast51 (p := 140) d_91_139 hg46 hg47 rfl (fun R48 => ?_)))))
      refine zG_ii2 (p := 143) d_91_140 ci_1 rfl (zG_goto (p := 114) d_91_143 (by decide) ?_)
      exact ih (x29 + (1 : Int32)) M42 R48 L44

theorem s91_l148 {sc : ZS} {d : Nat} {t : Nat} {r2 : Nat} {M49 : ZI} {L51 : ZY} : ∀ (n : Nat) (x53 : Int32) (R54 : ZF), zG sc (d + 1) 91 148 [.val (.ref t), .val (.ref r2), .val (.int x53)] [] (M49, R54, L51) (g91_l148 t r2 M49 L51 n x53 R54) (gEj sc (d + 1) 91 174 (fun (b : ZF) (s : Slot) => [.val (.ref t), .val (.ref r2), s]) (fun b => []) (fun b => (M49, b, L51))) := by
  intro n
  induction n with
  | zero => intros; exact zG_none
  | succ n ih =>
    intro x53 R54
    rw [g91_l148]
    refine zG_iln2 (p := 149) d_91_148 rfl (zG_aln0 (p := 150) d_91_149 rfl (zG_grd fun hg55 => (zG_gi (p := 153) d_91_150 ow_91 gf2_10_47 hg55 rfl ?_)))
    refine zG_cge (p1 := 174) (p2 := 156) d_91_153 (by decide) rfl ?_ ?_
    · exact zG_leaf (fun _ _ h => h (.val (.int x53)))
    · refine zG_aln1 (p := 157) d_91_156 rfl (zG_grd fun hg56 => (zG_grb (p := 160) d_91_157 ow_91 gf2_10_25 hg56 rfl (fun r57 => ?_)))
      refine zG_iln2 (p := 161) d_91_160 rfl (zG_aln0 (p := 162) d_91_161 rfl (zG_grb (p := 165) d_91_162 ow_91 gf2_10_25 hg55 rfl (fun r58 => ?_)))
      refine zG_iln2 (p := 166) d_91_165 rfl (zG_grd fun hg59 => (zG_aa51 (p := 167) d_91_166 hg59 rfl (fun r60 => ?_)))
      refine zG_grd fun hg61 => (zG_grd fun hg62 => (zG_ast51 (p := 168) d_91_167 hg61 hg62 rfl (fun R63 => ?_)))
      refine zG_ii2 (p := 171) d_91_168 ci_1 rfl (zG_goto (p := 148) d_91_171 (by decide) ?_)
      exact ih (x53 + (1 : Int32)) R63

theorem s91 {sc : ZS} {d : Nat} {t : Nat} {M : ZI} {R : ZF} {L : ZY} : zG sc (d + 1) 91 0 [.val (.ref t), .unset, .unset] [] (M, R, L) (g91_copy t M R L) gEq := by
  unfold g91_copy
  refine zG_grd fun hg1 => (zG_no (p := 3) d_91_0 ow_91 nw_10_8 hg1 rfl (fun r2 M3 R4 L5 => ?_))
  refine zG_dup (p := 4) d_91_3 rfl rfl (zG_grd fun hg6 => (zG_cI0v (p := 7) hg6 d_91_4 ow_91 rs2_10_28 kk_97 rfl s97 rfl rfl rfl rfl (fun M7 R8 L9 => ?_)))
  try dsimp only
  refine zG_asn1 (p := 8) d_91_7 rfl (zG_aln1 (p := 9) d_91_8 rfl (zG_aln0 (p := 10) d_91_9 rfl (zG_grd fun hg10 => (zG_gi (p := 13) d_91_10 ow_91 gf2_10_29 hg10 rfl (zG_grd fun hg11 => (zG_pi (p := 16) d_91_13 ow_91 gf2_10_29 (Or.inl rfl) (Or.inl rfl) fo_91_10_0 hg11 rfl (fun M12 => ?_)))))))
  refine zG_aln1 (p := 17) d_91_16 rfl (zG_aln0 (p := 18) d_91_17 rfl (zG_gi (p := 21) d_91_18 ow_91 gf2_10_32 hg10 rfl (zG_pi (p := 24) d_91_21 ow_91 gf2_10_32 (Or.inl rfl) (Or.inl rfl) fo_91_10_1 hg11 rfl (fun M13 => ?_))))
  refine zG_aln1 (p := 25) d_91_24 rfl (zG_aln0 (p := 26) d_91_25 rfl (zG_gi (p := 29) d_91_26 ow_91 gf2_10_35 hg10 rfl (zG_pi (p := 32) d_91_29 ow_91 gf2_10_35 (Or.inl rfl) (Or.inl rfl) fo_91_10_2 hg11 rfl (fun M14 => ?_))))
  refine zG_aln1 (p := 33) d_91_32 rfl (zG_aln0 (p := 34) d_91_33 rfl (zG_gi (p := 37) d_91_34 ow_91 gf2_10_7 hg10 rfl (zG_pi (p := 40) d_91_37 ow_91 gf2_10_7 (Or.inl rfl) (Or.inl rfl) fo_91_10_3 hg11 rfl (fun M15 => ?_))))
  refine zG_aln1 (p := 41) d_91_40 rfl (zG_aln0 (p := 42) d_91_41 rfl (zG_gi (p := 45) d_91_42 ow_91 gf2_10_13 hg10 rfl (zG_pi (p := 48) d_91_45 ow_91 gf2_10_13 (Or.inl rfl) (Or.inl rfl) fo_91_10_4 hg11 rfl (fun M16 => ?_))))
  refine zG_aln1 (p := 49) d_91_48 rfl (zG_aln0 (p := 50) d_91_49 rfl (zG_gi (p := 53) d_91_50 ow_91 gf2_10_38 hg10 rfl (zG_pi (p := 56) d_91_53 ow_91 gf2_10_38 (Or.inl rfl) (Or.inl rfl) fo_91_10_5 hg11 rfl (fun M17 => ?_))))
  refine zG_aln1 (p := 57) d_91_56 rfl (zG_aln0 (p := 58) d_91_57 rfl (zG_gi (p := 61) d_91_58 ow_91 gf2_10_41 hg10 rfl (zG_pi (p := 64) d_91_61 ow_91 gf2_10_41 (Or.inl rfl) (Or.inl rfl) fo_91_10_6 hg11 rfl (fun M18 => ?_))))
  refine zG_aln1 (p := 65) d_91_64 rfl (zG_aln0 (p := 66) d_91_65 rfl (zG_gi (p := 69) d_91_66 ow_91 gf2_10_44 hg10 rfl (zG_pi (p := 72) d_91_69 ow_91 gf2_10_44 (Or.inl rfl) (Or.inl rfl) fo_91_10_7 hg11 rfl (fun M19 => ?_))))
  refine zG_aln1 (p := 73) d_91_72 rfl (zG_aln0 (p := 74) d_91_73 rfl (zG_gi (p := 77) d_91_74 ow_91 gf2_10_47 hg10 rfl (zG_pi (p := 80) d_91_77 ow_91 gf2_10_47 (Or.inl rfl) (Or.inl rfl) fo_91_10_8 hg11 rfl (fun M20 => ?_))))
  refine zG_aln1 (p := 81) d_91_80 rfl (zG_aln0 (p := 82) d_91_81 rfl (zG_gi (p := 85) d_91_82 ow_91 gf2_10_50 hg10 rfl (zG_pi (p := 88) d_91_85 ow_91 gf2_10_50 (Or.inl rfl) (Or.inl rfl) fo_91_10_9 hg11 rfl (fun M21 => ?_))))
  refine zG_aln1 (p := 89) d_91_88 rfl (zG_aln0 (p := 90) d_91_89 rfl (zG_grb (p := 93) d_91_90 ow_91 gf2_10_22 hg10 rfl (fun r22 => ?_)))
  refine zG_grd fun hg23 => (zG_pr (p := 96) d_91_93 ow_91 gf2_10_22 fo_91_10_11 hg11 hg23 rfl (fun R24 => ?_))
  refine zG_aln1 (p := 97) d_91_96 rfl (zG_aln0 (p := 98) d_91_97 rfl (zG_gro (p := 101) d_91_98 ow_91 gf2_10_53 hg10 rfl (zG_grd fun hg25 => (zG_po (p := 104) d_91_101 ow_91 gf2_10_53 fo_91_10_13 hg11 hg25 rfl (fun R26 => ?_)))))
  refine zG_aln1 (p := 105) d_91_104 rfl (zG_aln0 (p := 106) d_91_105 rfl (zG_gro (p := 109) d_91_106 ow_91 gf2_10_57 hg10 rfl (zG_grd fun hg27 => (zG_po (p := 112) d_91_109 ow_91 gf2_10_57 fo_91_10_14 hg11 hg27 rfl (fun R28 => ?_)))))
  refine zG_ic (p := 113) d_91_112 ci_0 rfl (zG_isn2 (p := 114) d_91_113 rfl ?_)
  refine zG_bind (s91_l114 zfu (0 : Int32) M21 R28 L9) ?_
  rintro ⟨M49, R50, L51⟩ u52
  try dsimp only
  refine zG_ic (p := 147) d_91_146 ci_0 rfl (zG_isn2 (p := 148) d_91_147 rfl ?_)
  refine zG_bind (s91_l148 zfu (0 : Int32) R50) ?_
  rintro R64 u65
  try dsimp only
  refine zG_aln1 (p := 175) d_91_174 rfl ?_
  exact zG_retq d_91_175 rfl

theorem s99 {sc : ZS} {d : Nat} {t : Nat} {a1 : Int32} {a2 : Int32} {a3 : Int32} {a4 : Int32} {M : ZI} {R : ZF} {L : ZY} : zG sc d 99 0 [.val (.ref t), .val (.int a1), .val (.int a2), .val (.int a3), .val (.int a4)] [] (M, R, L) (g99_notes t a1 a2 a3 a4 M R L) gEv := by
  unfold g99_notes
  refine zG_il4 (p := 2) d_99_0 rfl ?_
  refine zG_zeq (p1 := 53) (p2 := 5) d_99_2 (by decide) rfl ?_ ?_
  · exact zG_retv d_99_53 rt_99
  · refine zG_aln0 (p := 6) d_99_5 rfl (zG_grd fun hg1 => (zG_gi (p := 9) d_99_6 ow_99 gf2_10_47 hg1 rfl (zG_si (p := 12) d_99_9 cs_150 rfl ?_)))
    refine zG_cge (p1 := 53) (p2 := 15) d_99_12 (by decide) rfl ?_ ?_
    · exact zG_retv d_99_53 rt_99
    · refine zG_aln0 (p := 16) d_99_15 rfl (zG_grb (p := 19) d_99_16 ow_99 gf2_10_25 hg1 rfl (fun r2 => ?_))
      refine zG_aln0 (p := 20) d_99_19 rfl (zG_dup (p := 21) d_99_20 rfl rfl (zG_gi (p := 24) d_99_21 ow_99 gf2_10_47 hg1 rfl (zG_dupx1 (p := 25) d_99_24 rfl rfl rfl (zG_ic (p := 26) d_99_25 ci_1 rfl (zG_add (p := 27) d_99_26 rfl (zG_pi (p := 30) d_99_27 ow_99 gf2_10_47 (Or.inl rfl) (Or.inl rfl) fo_99_10_8 hg1 rfl (fun M3 => ?_)))))))
      refine zG_ic (p := 31) d_99_30 ci_4 rfl (zG_grd fun hg4 => (zG_grd fun hg5 => (zG_ni (p := 33) d_99_31 hg4 hg5 rfl (fun r6 M7 R8 L9 => ?_))))
      refine zG_dup (p := 34) d_99_33 rfl rfl (zG_ic (p := 35) d_99_34 ci_0 rfl (zG_aln0 (p := 36) d_99_35 rfl (zG_grd fun hg10 => (zG_gi (p := 39) d_99_36 ow_99 gf2_10_32 hg10 rfl (zG_grd fun hg11 => (zG_ist (p := 40) d_99_39 hg11 rfl (fun M12 => ?_)))))))
      refine zG_dup (p := 41) d_99_40 rfl rfl (zG_ic (p := 42) d_99_41 ci_1 rfl (zG_iln1 (p := 43) d_99_42 rfl (zG_grd fun hg13 => (zG_ist (p := 44) d_99_43 hg13 rfl (fun M14 => ?_)))))
      refine zG_dup (p := 45) d_99_44 rfl rfl (zG_ic (p := 46) d_99_45 ci_2 rfl (zG_iln2 (p := 47) d_99_46 rfl (zG_grd fun hg15 => (zG_ist (p := 48) d_99_47 hg15 rfl (fun M16 => ?_)))))
      refine zG_dup (p := 49) d_99_48 rfl rfl (zG_ic (p := 50) d_99_49 ci_3 rfl (zG_iln3 (p := 51) d_99_50 rfl (zG_grd fun hg17 => (zG_ist (p := 52) d_99_51 hg17 rfl (fun M18 => ?_)))))
      refine zG_grd fun hg19 => (zG_grd fun hg20 => (zG_ast51 (p := 53) d_99_52 hg19 hg20 rfl (fun R21 => ?_)))
      exact zG_retv d_99_53 rt_99

theorem s103 {sc : ZS} {d : Nat} {a0 : Int32} {a1 : Int32} {a2 : Int32} {M : ZI} {R : ZF} {L : ZY} : zG sc d 103 0 [.val (.int a0), .val (.int a1), .val (.int a2)] [] (M, R, L) (g103_held a0 a1 a2) (gEi (M, R, L)) := by
  unfold g103_held
  refine zG_iln1 (p := 1) d_103_0 rfl (zG_iln2 (p := 2) d_103_1 rfl (zG_iln0 (p := 3) d_103_2 rfl (zG_min (p := 6) d_103_3 ow_103 rs2_14_8 rfl rfl (zG_max (p := 9) d_103_6 ow_103 rs2_14_14 rfl rfl ?_))))
  exact zG_reti d_103_9 rt_103

theorem s102 {sc : ZS} {d : Nat} {t : Nat} {a1 : Int32} {M : ZI} {R : ZF} {L : ZY} : zG sc (d + 1) 102 0 [.val (.ref t), .val (.int a1), .unset, .unset] [] (M, R, L) (g102_weight t a1 M R L) (gEi (M, R, L)) := by
  unfold g102_weight
  refine zG_aln0 (p := 1) d_102_0 rfl (zG_grd fun hg1 => (zG_grb (p := 4) d_102_1 ow_102 gf2_10_18 hg1 rfl (fun r2 => ?_)))
  refine zG_iln1 (p := 5) d_102_4 rfl (zG_grd fun hg3 => (zG_aa51 (p := 6) d_102_5 hg3 rfl (fun r4 => ?_)))
  refine zG_asn2 (p := 7) d_102_6 rfl (zG_aln0 (p := 8) d_102_7 rfl (zG_gro (p := 11) d_102_8 ow_102 gf2_10_57 hg1 rfl (zG_aqn3 (p := 12) d_102_11 rfl (zG_aon3 (p := 13) d_102_12 rfl ?_))))
  refine zG_nno (p1 := 18) (p2 := 16) d_102_13 (by decide) rfl (fun _ => ?_) (fun r5 hr6 => ?_)
  · refine zG_ic (p := 17) d_102_16 ci_1 rfl ?_
    exact zG_reti d_102_17 rt_102
  · skip
    refine zG_aln2 (p := 19) d_102_18 rfl (zG_ic (p := 20) d_102_19 ci_0 rfl (zG_grd fun hg7 => (zG_ia (p := 21) d_102_20 hg7 rfl (zG_akn3 (p := 22) d_102_21 rfl hr6 (zG_ic (p := 23) d_102_22 ci_0 rfl (zG_grd fun hg8 => (zG_ia (p := 24) d_102_23 hg8 rfl ?_)))))))
    refine zG_jn (P := fun g => ∀ (_ : Unit), zG sc (d + 1) 102 63 [.val (.ref t), .val (.int a1), .val (.ref r4), .val (va_rf (R t 14))] [] (M, R, L) (g ()) (gEi (M, R, L))) ?_ (fun j13 hj13 => ?_)
    · intro _
      try dsimp only
      refine zG_aln2 (p := 64) d_102_63 rfl (zG_ic (p := 65) d_102_64 ci_4 rfl (zG_grd fun hg9 => (zG_ia (p := 66) d_102_65 hg9 rfl (zG_aln2 (p := 67) d_102_66 rfl (zG_ic (p := 68) d_102_67 ci_3 rfl (zG_grd fun hg10 => (zG_ia (p := 69) d_102_68 hg10 rfl ?_)))))))
      refine zG_akn3 (p := 70) d_102_69 rfl hr6 (zG_ic (p := 71) d_102_70 ci_3 rfl (zG_grd fun hg11 => (zG_ia (p := 72) d_102_71 hg11 rfl (zG_mul (p := 73) d_102_72 rfl (zG_sub (p := 74) d_102_73 rfl (zG_ic (p := 75) d_102_74 ci_0 rfl (zG_bi (p := 77) d_102_75 cb_24 rfl ?_)))))))
      refine zG_cS3i (p := 80) d_102_77 ow_102 rs2_10_66 kk_103 rfl s103 rfl rfl rfl rfl (fun v12 => ?_)
      exact zG_reti d_102_80 rt_102
    · refine zG_cle (p1 := 63) (p2 := 27) d_102_24 (by decide) rfl ?_ ?_
      · exact hj13 ()
      · refine zG_aln2 (p := 28) d_102_27 rfl (zG_ic (p := 29) d_102_28 ci_3 rfl (zG_grd fun hg14 => (zG_ia (p := 30) d_102_29 hg14 rfl (zG_akn3 (p := 31) d_102_30 rfl hr6 (zG_ic (p := 32) d_102_31 ci_1 rfl (zG_grd fun hg15 => (zG_ia (p := 33) d_102_32 hg15 rfl ?_)))))))
        refine zG_cgt (p1 := 63) (p2 := 36) d_102_33 (by decide) rfl ?_ ?_
        · exact hj13 ()
        · refine zG_aln0 (p := 37) d_102_36 rfl (zG_gi (p := 40) d_102_37 ow_102 gf2_10_35 hg1 rfl (zG_bi (p := 42) d_102_40 cb_9 rfl ?_))
          refine zG_cgt (p1 := 63) (p2 := 45) d_102_42 (by decide) rfl ?_ ?_
          · exact hj13 ()
          · refine zG_aln2 (p := 46) d_102_45 rfl (zG_ic (p := 47) d_102_46 ci_1 rfl (zG_grd fun hg16 => (zG_ia (p := 48) d_102_47 hg16 rfl (zG_ic (p := 49) d_102_48 ci_4 rfl (zG_div (p := 50) d_102_49 (by decide) rfl (zG_akn3 (p := 51) d_102_50 rfl hr6 (zG_ic (p := 52) d_102_51 ci_2 rfl ?_)))))))
            refine zG_grd fun hg17 => (zG_ia (p := 53) d_102_52 hg17 rfl (zG_add (p := 54) d_102_53 rfl (zG_ic (p := 55) d_102_54 ci_0 rfl (zG_bi (p := 57) d_102_55 cb_24 rfl (zG_cS3i (p := 60) d_102_57 ow_102 rs2_10_66 kk_103 rfl s103 rfl rfl rfl rfl (fun v18 => ?_))))))
            refine zG_goto (p := 80) d_102_60 (by decide) ?_
            exact zG_reti d_102_80 rt_102

theorem s101_l4 {sc : ZS} {d : Nat} {t : Nat} {a1 : Int32} {M : ZI} {R : ZF} {L : ZY} : ∀ (n : Nat) (x1 : Int32) (x2 : Int32), zG sc (d + 2) 101 4 [.val (.ref t), .val (.int a1), .val (.int x1), .val (.int x2)] [] (M, R, L) (g101_l4 t a1 M R L n x1 x2) (gEj sc (d + 2) 101 38 (fun (b : Int32) (s : Slot) => [.val (.ref t), .val (.int a1), .val (.int b), s]) (fun b => []) (fun b => (M, R, L))) := by
  intro n
  induction n with
  | zero => intros; exact zG_none
  | succ n ih =>
    intro x1 x2
    rw [g101_l4]
    refine zG_iln3 (p := 5) d_101_4 rfl (zG_aln0 (p := 6) d_101_5 rfl (zG_grd fun hg3 => (zG_gi (p := 9) d_101_6 ow_101 gf2_10_44 hg3 rfl ?_)))
    refine zG_cge (p1 := 38) (p2 := 12) d_101_9 (by decide) rfl ?_ ?_
    · exact zG_leaf (fun _ _ h => h (.val (.int x2)))
    · refine zG_aln0 (p := 13) d_101_12 rfl (zG_grb (p := 16) d_101_13 ow_101 gf2_10_18 hg3 rfl (fun r4 => ?_))
      refine zG_iln3 (p := 17) d_101_16 rfl (zG_grd fun hg5 => (zG_aa51 (p := 18) d_101_17 hg5 rfl (fun r6 => ?_)))
      refine zG_ic (p := 19) d_101_18 ci_5 rfl (zG_grd fun hg7 => (zG_ia (p := 20) d_101_19 hg7 rfl (zG_iln1 (p := 21) d_101_20 rfl ?_)))
      refine zG_cne (p1 := 32) (p2 := 24) d_101_21 (by decide) rfl ?_ ?_
      · refine zG_ii3 (p := 35) d_101_32 ci_1 rfl (zG_goto (p := 4) d_101_35 (by decide) ?_)
        exact ih x1 (x2 + (1 : Int32))
      · refine zG_iln2 (p := 25) d_101_24 rfl (zG_aln0 (p := 26) d_101_25 rfl (zG_iln3 (p := 27) d_101_26 rfl (zG_cV1i (p := 30) (c := 10) ⟨ow_102, by decide, zdr_102⟩ hg3 d_101_27 ow_101 rs2_10_84 kk_102 vn_102 rfl s102 rfl rfl rfl rfl (fun v8 => ?_))))
        refine zG_add (p := 31) d_101_30 rfl (zG_jsn2 (p := 32) d_101_31 rfl (fun x9 => ?_))
        refine zG_ii3 (p := 35) d_101_32 ci_1 rfl (zG_goto (p := 4) d_101_35 (by decide) ?_)
        exact ih x9 (x2 + (1 : Int32))

theorem s101 {sc : ZS} {d : Nat} {t : Nat} {a1 : Int32} {M : ZI} {R : ZF} {L : ZY} : zG sc (d + 2) 101 0 [.val (.ref t), .val (.int a1), .unset, .unset] [] (M, R, L) (g101_sum t a1 M R L) (gEi (M, R, L)) := by
  unfold g101_sum
  refine zG_ic (p := 1) d_101_0 ci_0 rfl (zG_isn2 (p := 2) d_101_1 rfl (zG_ic (p := 3) d_101_2 ci_0 rfl (zG_isn3 (p := 4) d_101_3 rfl ?_)))
  refine zG_bind (s101_l4 zfu (0 : Int32) (0 : Int32)) ?_
  rintro x10 u11
  try dsimp only
  refine zG_iln2 (p := 39) d_101_38 rfl ?_
  exact zG_reti d_101_39 rt_101

theorem s104_l4 {sc : ZS} {d : Nat} {t : Nat} {a1 : Int32} {M : ZI} {R : ZF} {L : ZY} : ∀ (n : Nat) (x1 : Int32) (x2 : Int32), zG sc d 104 4 [.val (.ref t), .val (.int a1), .val (.int x1), .val (.int x2)] [] (M, R, L) (g104_l4 t a1 M R L n x1 x2) (gEj sc d 104 36 (fun (b : Int32) (s : Slot) => [.val (.ref t), .val (.int a1), .val (.int b), s]) (fun b => []) (fun b => (M, R, L))) := by
  intro n
  induction n with
  | zero => intros; exact zG_none
  | succ n ih =>
    intro x1 x2
    rw [g104_l4]
    refine zG_iln3 (p := 5) d_104_4 rfl (zG_aln0 (p := 6) d_104_5 rfl (zG_grd fun hg3 => (zG_gi (p := 9) d_104_6 ow_104 gf2_10_44 hg3 rfl ?_)))
    refine zG_cge (p1 := 36) (p2 := 12) d_104_9 (by decide) rfl ?_ ?_
    · exact zG_leaf (fun _ _ h => h (.val (.int x2)))
    · refine zG_aln0 (p := 13) d_104_12 rfl (zG_grb (p := 16) d_104_13 ow_104 gf2_10_18 hg3 rfl (fun r4 => ?_))
      refine zG_iln3 (p := 17) d_104_16 rfl (zG_grd fun hg5 => (zG_aa51 (p := 18) d_104_17 hg5 rfl (fun r6 => ?_)))
      refine zG_ic (p := 19) d_104_18 ci_5 rfl (zG_grd fun hg7 => (zG_ia (p := 20) d_104_19 hg7 rfl (zG_iln1 (p := 21) d_104_20 rfl ?_)))
      refine zG_cne (p1 := 30) (p2 := 24) d_104_21 (by decide) rfl ?_ ?_
      · refine zG_ii3 (p := 33) d_104_30 ci_1 rfl (zG_goto (p := 4) d_104_33 (by decide) ?_)
        exact ih x1 (x2 + (1 : Int32))
      · refine zG_iln2 (p := 25) d_104_24 rfl (zG_ic (p := 26) d_104_25 ci_1 rfl (zG_iln3 (p := 27) d_104_26 rfl (zG_shl (p := 28) d_104_27 rfl (zG_or (p := 29) d_104_28 rfl (zG_jsn2 (p := 30) d_104_29 rfl (fun x8 => ?_))))))
        refine zG_ii3 (p := 33) d_104_30 ci_1 rfl (zG_goto (p := 4) d_104_33 (by decide) ?_)
        exact ih x8 (x2 + (1 : Int32))

theorem s104 {sc : ZS} {d : Nat} {t : Nat} {a1 : Int32} {M : ZI} {R : ZF} {L : ZY} : zG sc d 104 0 [.val (.ref t), .val (.int a1), .unset, .unset] [] (M, R, L) (g104_voices t a1 M R L) (gEi (M, R, L)) := by
  unfold g104_voices
  refine zG_ic (p := 1) d_104_0 ci_0 rfl (zG_isn2 (p := 2) d_104_1 rfl (zG_ic (p := 3) d_104_2 ci_0 rfl (zG_isn3 (p := 4) d_104_3 rfl ?_)))
  refine zG_bind (s104_l4 zfu (0 : Int32) (0 : Int32)) ?_
  rintro x9 u10
  try dsimp only
  refine zG_iln2 (p := 37) d_104_36 rfl ?_
  exact zG_reti d_104_37 rt_104

theorem s106_b {sc : ZS} {d : Nat} {g : Nat → Int32 → ZI → ZF → ZY → Option Int32} (hg : ∀ {t : Nat} {a1 : Int32} {M : ZI} {R : ZF} {L : ZY}, zG sc (d + 1) 106 0 [.val (.ref t), .val (.int a1)] [] (M, R, L) (g t a1 M R L) (gEi (M, R, L))) {t : Nat} {a1 : Int32} {M : ZI} {R : ZF} {L : ZY} : zG sc (d + 2) 106 0 [.val (.ref t), .val (.int a1)] [] (M, R, L) (g106_does_b g t a1 M R L) (gEi (M, R, L)) := by
  unfold g106_does_b
  refine zG_aln0 (p := 1) d_106_0 rfl (zG_grd fun hg1 => (zG_gi (p := 4) d_106_1 ow_106 gf2_13_7 hg1 rfl ?_))
  refine zG_zne (p1 := 27) (p2 := 7) d_106_4 (by decide) rfl ?_ ?_
  · refine zG_aln0 (p := 28) d_106_27 rfl (zG_gi (p := 31) d_106_28 ow_106 gf2_13_7 hg1 rfl (zG_ic (p := 32) d_106_31 ci_1 rfl ?_))
    refine zG_cne (p1 := 54) (p2 := 35) d_106_32 (by decide) rfl ?_ ?_
    · refine zG_aln0 (p := 55) d_106_54 rfl (zG_gi (p := 58) d_106_55 ow_106 gf2_13_7 hg1 rfl (zG_ic (p := 59) d_106_58 ci_2 rfl ?_))
      refine zG_cne (p1 := 92) (p2 := 62) d_106_59 (by decide) rfl ?_ ?_
      · refine zG_aln0 (p := 93) d_106_92 rfl (zG_grb (p := 96) d_106_93 ow_106 gf2_13_16 hg1 rfl (fun r2 => ?_))
        refine zG_iln1 (p := 97) d_106_96 rfl (zG_grd fun hg3 => (zG_cV1i (p := 100) (c := 13) ⟨ow_106, by decide, zdr_106⟩ hg3 d_106_97 ow_106 rs2_13_29 kk_106 vn_106 rfl hg rfl rfl rfl rfl (fun v4 => ?_)))
        refine zG_zne (p1 := 114) (p2 := 103) d_106_100 (by decide) rfl ?_ ?_
        · refine zG_ic (p := 115) d_106_114 ci_1 rfl (zG_goto (p := 119) d_106_115 (by decide) ?_)
          exact zG_retib d_106_119 rt_106 rfl
        · refine zG_aln0 (p := 104) d_106_103 rfl (zG_grb (p := 107) d_106_104 ow_106 gf2_13_20 hg1 rfl (fun r5 => ?_))
          refine zG_iln1 (p := 108) d_106_107 rfl (zG_grd fun hg6 => (zG_cV1i (p := 111) (c := 13) ⟨ow_106, by decide, zdr_106⟩ hg6 d_106_108 ow_106 rs2_13_29 kk_106 vn_106 rfl hg rfl rfl rfl rfl (fun v7 => ?_)))
          refine zG_zeq (p1 := 118) (p2 := 114) d_106_111 (by decide) rfl ?_ ?_
          · refine zG_ic (p := 119) d_106_118 ci_0 rfl ?_
            exact zG_retib d_106_119 rt_106 rfl
          · refine zG_ic (p := 115) d_106_114 ci_1 rfl (zG_goto (p := 119) d_106_115 (by decide) ?_)
            exact zG_retib d_106_119 rt_106 rfl
      · refine zG_aln0 (p := 63) d_106_62 rfl (zG_grb (p := 66) d_106_63 ow_106 gf2_13_16 hg1 rfl (fun r8 => ?_))
        refine zG_iln1 (p := 67) d_106_66 rfl (zG_grd fun hg9 => (zG_cV1i (p := 70) (c := 13) ⟨ow_106, by decide, zdr_106⟩ hg9 d_106_67 ow_106 rs2_13_29 kk_106 vn_106 rfl hg rfl rfl rfl rfl (fun v10 => ?_)))
        refine zG_zeq (p1 := 88) (p2 := 73) d_106_70 (by decide) rfl ?_ ?_
        · refine zG_ic (p := 89) d_106_88 ci_0 rfl (zG_goto (p := 119) d_106_89 (by decide) ?_)
          exact zG_retib d_106_119 rt_106 rfl
        · refine zG_aln0 (p := 74) d_106_73 rfl (zG_grb (p := 77) d_106_74 ow_106 gf2_13_20 hg1 rfl (fun r11 => ?_))
          refine zG_iln1 (p := 78) d_106_77 rfl (zG_grd fun hg12 => (zG_cV1i (p := 81) (c := 13) ⟨ow_106, by decide, zdr_106⟩ hg12 d_106_78 ow_106 rs2_13_29 kk_106 vn_106 rfl hg rfl rfl rfl rfl (fun v13 => ?_)))
          refine zG_zeq (p1 := 88) (p2 := 84) d_106_81 (by decide) rfl ?_ ?_
          · refine zG_ic (p := 89) d_106_88 ci_0 rfl (zG_goto (p := 119) d_106_89 (by decide) ?_)
            exact zG_retib d_106_119 rt_106 rfl
          · refine zG_ic (p := 85) d_106_84 ci_1 rfl (zG_goto (p := 119) d_106_85 (by decide) ?_)
            exact zG_retib d_106_119 rt_106 rfl
    · refine zG_iln1 (p := 36) d_106_35 rfl (zG_grd fun hg14 => (zG_s1i (p := 39) hg14 d_106_36 ow_106 rs2_13_23 kk_28 rfl (fun q hL => s28 hL) rfl rfl rfl rfl (fun v15 => ?_)))
      refine zG_aln0 (p := 40) d_106_39 rfl (zG_gi (p := 43) d_106_40 ow_106 gf2_13_13 hg1 rfl ?_)
      refine zG_clt (p1 := 50) (p2 := 46) d_106_43 (by decide) rfl ?_ ?_
      · refine zG_ic (p := 51) d_106_50 ci_0 rfl (zG_goto (p := 119) d_106_51 (by decide) ?_)
        exact zG_retib d_106_119 rt_106 rfl
      · refine zG_ic (p := 47) d_106_46 ci_1 rfl (zG_goto (p := 119) d_106_47 (by decide) ?_)
        exact zG_retib d_106_119 rt_106 rfl
  · refine zG_iln1 (p := 8) d_106_7 rfl (zG_aln0 (p := 9) d_106_8 rfl (zG_gi (p := 12) d_106_9 ow_106 gf2_13_13 hg1 rfl (zG_shr (p := 13) d_106_12 rfl (zG_ic (p := 14) d_106_13 ci_1 rfl (zG_and (p := 15) d_106_14 rfl (zG_ic (p := 16) d_106_15 ci_1 rfl ?_))))))
    refine zG_cne (p1 := 23) (p2 := 19) d_106_16 (by decide) rfl ?_ ?_
    · refine zG_ic (p := 24) d_106_23 ci_0 rfl (zG_goto (p := 119) d_106_24 (by decide) ?_)
      exact zG_retib d_106_119 rt_106 rfl
    · refine zG_ic (p := 20) d_106_19 ci_1 rfl (zG_goto (p := 119) d_106_20 (by decide) ?_)
      exact zG_retib d_106_119 rt_106 rfl

theorem s106 {sc : ZS} {d : Nat} : ∀ (n : Nat) {t : Nat} {a1 : Int32} {M : ZI} {R : ZF} {L : ZY}, zG sc (d + 1 + n) 106 0 [.val (.ref t), .val (.int a1)] [] (M, R, L) (g106_does n t a1 M R L) (gEi (M, R, L)) := by
  intro n
  induction n with
  | zero => intros; exact zG_none
  | succ n ih =>
    intro t a1 M R L
    rw [show d + 1 + (n + 1) = (d + n) + 2 from by omega]
    exact s106_b (d := d + n) (g := g106_does n) (fun {t} {a1} {M} {R} {L} => by
      rw [show d + n + 1 = d + 1 + n from by omega]
      exact ih)

theorem s105 {sc : ZS} {d : Nat} {t : Nat} {a1 : Int32} {M : ZI} {R : ZF} {L : ZY} : zG sc (d + 23) 105 0 [.val (.ref t), .val (.int a1)] [] (M, R, L) (g105_does t a1 M R L) (gEi (M, R, L)) := by
  unfold g105_does
  refine zG_aln0 (p := 1) d_105_0 rfl (zG_grd fun hg1 => (zG_gro (p := 4) d_105_1 ow_105 gf2_10_53 hg1 rfl ?_))
  refine zG_nuo (p1 := 18) (p2 := 7) d_105_4 (by decide) rfl (fun _ => ?_) (fun r2 hr3 => ?_)
  · refine zG_ic (p := 19) d_105_18 ci_1 rfl (zG_goto (p := 23) d_105_19 (by decide) ?_)
    exact zG_retib d_105_23 rt_105 rfl
  · skip
    refine zG_aln0 (p := 8) d_105_7 rfl (zG_grb (p := 11) d_105_8 ow_105 gf2_10_53 hg1 rfl (fun r4 => ?_))
    refine zG_iln1 (p := 12) d_105_11 rfl (zG_grd fun hg5 => (zG_cV1i (p := 15) (c := 13) ⟨ow_106, by decide, zdr_106⟩ hg5 d_105_12 ow_105 rs2_10_78 kk_106 vn_106 rfl (s106 zgr) rfl rfl rfl rfl (fun v6 => ?_)))
    refine zG_zeq (p1 := 22) (p2 := 18) d_105_15 (by decide) rfl ?_ ?_
    · refine zG_ic (p := 23) d_105_22 ci_0 rfl ?_
      exact zG_retib d_105_23 rt_105 rfl
    · refine zG_ic (p := 19) d_105_18 ci_1 rfl (zG_goto (p := 23) d_105_19 (by decide) ?_)
      exact zG_retib d_105_23 rt_105 rfl

theorem s100_l9 {sc : ZS} {d : Nat} {t : Nat} {M : ZI} {R : ZF} {L : ZY} : ∀ (n : Nat) (x3 : Int32) (x4 : Int32), zG sc (d + 24) 100 9 [.val (.ref t), .val (.int x3), .val (.int x4)] [] (M, R, L) (g100_l9 t M R L n x3 x4) (gEj sc (d + 24) 100 93 (fun (b : Int32) (s : Slot) => [.val (.ref t), .val (.int b), s]) (fun b => []) (fun b => (M, R, L))) := by
  intro n
  induction n with
  | zero => intros; exact zG_none
  | succ n ih =>
    intro x3 x4
    rw [g100_l9]
    refine zG_iln2 (p := 10) d_100_9 rfl ?_
    refine zG_zlt (p1 := 93) (p2 := 13) d_100_10 (by decide) rfl ?_ ?_
    · exact zG_leaf (fun _ _ h => h (.val (.int x4)))
    · refine zG_aln0 (p := 14) d_100_13 rfl (zG_iln2 (p := 15) d_100_14 rfl (zG_grd fun hg5 => (zG_cV1i (p := 18) (c := 10) ⟨ow_101, by decide, zdr_101⟩ hg5 d_100_15 ow_100 rs2_10_87 kk_101 vn_101 rfl s101 rfl rfl rfl rfl (fun v6 => ?_))))
      refine zG_zeq (p1 := 87) (p2 := 21) d_100_18 (by decide) rfl ?_ ?_
      · refine zG_ii2 (p := 90) d_100_87 ci_m1 rfl (zG_goto (p := 9) d_100_90 (by decide) ?_)
        exact ih x3 (x4 + (-1 : Int32))
      · refine zG_aln0 (p := 22) d_100_21 rfl (zG_aln0 (p := 23) d_100_22 rfl (zG_iln2 (p := 24) d_100_23 rfl (zG_cV1i (p := 27) (c := 10) ⟨ow_104, by decide, zdr_104⟩ hg5 d_100_24 ow_100 rs2_10_90 kk_104 vn_104 rfl s104 rfl rfl rfl rfl (fun v7 => ?_))))
        refine zG_cV1i (p := 30) (c := 10) ⟨ow_105, by decide, zdr_105⟩ hg5 d_100_27 ow_100 rs2_10_93 kk_105 vn_105 rfl s105 rfl rfl rfl rfl (fun v8 => ?_)
        refine zG_zne (p1 := 36) (p2 := 33) d_100_30 (by decide) rfl ?_ ?_
        · refine zG_iln1 (p := 37) d_100_36 rfl ?_
          refine zG_zlt (p1 := 85) (p2 := 40) d_100_37 (by decide) rfl ?_ ?_
          · refine zG_iln2 (p := 86) d_100_85 rfl (zG_isn1 (p := 87) d_100_86 rfl (zG_ii2 (p := 90) d_100_87 ci_m1 rfl (zG_goto (p := 9) d_100_90 (by decide) ?_)))
            exact ih x4 (x4 + (-1 : Int32))
          · refine zG_aln0 (p := 41) d_100_40 rfl (zG_iln2 (p := 42) d_100_41 rfl (zG_cV1i (p := 45) (c := 10) ⟨ow_101, by decide, zdr_101⟩ hg5 d_100_42 ow_100 rs2_10_87 kk_101 vn_101 rfl s101 rfl rfl rfl rfl (fun v9 => ?_)))
            refine zG_aln0 (p := 46) d_100_45 rfl (zG_iln1 (p := 47) d_100_46 rfl (zG_cV1i (p := 50) (c := 10) ⟨ow_101, by decide, zdr_101⟩ hg5 d_100_47 ow_100 rs2_10_87 kk_101 vn_101 rfl s101 rfl rfl rfl rfl (fun v10 => ?_)))
            refine zG_cgt (p1 := 85) (p2 := 53) d_100_50 (by decide) rfl ?_ ?_
            · refine zG_iln2 (p := 86) d_100_85 rfl (zG_isn1 (p := 87) d_100_86 rfl (zG_ii2 (p := 90) d_100_87 ci_m1 rfl (zG_goto (p := 9) d_100_90 (by decide) ?_)))
              exact ih x4 (x4 + (-1 : Int32))
            · refine zG_aln0 (p := 54) d_100_53 rfl (zG_iln2 (p := 55) d_100_54 rfl (zG_cV1i (p := 58) (c := 10) ⟨ow_101, by decide, zdr_101⟩ hg5 d_100_55 ow_100 rs2_10_87 kk_101 vn_101 rfl s101 rfl rfl rfl rfl (fun v11 => ?_)))
              refine zG_aln0 (p := 59) d_100_58 rfl (zG_iln1 (p := 60) d_100_59 rfl (zG_cV1i (p := 63) (c := 10) ⟨ow_101, by decide, zdr_101⟩ hg5 d_100_60 ow_100 rs2_10_87 kk_101 vn_101 rfl s101 rfl rfl rfl rfl (fun v12 => ?_)))
              refine zG_cne (p1 := 87) (p2 := 66) d_100_63 (by decide) rfl ?_ ?_
              · refine zG_ii2 (p := 90) d_100_87 ci_m1 rfl (zG_goto (p := 9) d_100_90 (by decide) ?_)
                exact ih x3 (x4 + (-1 : Int32))
              · refine zG_aln0 (p := 67) d_100_66 rfl (zG_grb (p := 70) d_100_67 ow_100 gf2_10_18 hg5 rfl (fun r13 => ?_))
                refine zG_iln2 (p := 71) d_100_70 rfl (zG_grd fun hg14 => (zG_aa51 (p := 72) d_100_71 hg14 rfl (fun r15 => ?_)))
                refine zG_ic (p := 73) d_100_72 ci_1 rfl (zG_grd fun hg16 => (zG_ia (p := 74) d_100_73 hg16 rfl (zG_aln0 (p := 75) d_100_74 rfl (zG_grb (p := 78) d_100_75 ow_100 gf2_10_18 hg5 rfl (fun r17 => ?_)))))
                refine zG_iln1 (p := 79) d_100_78 rfl (zG_grd fun hg18 => (zG_aa51 (p := 80) d_100_79 hg18 rfl (fun r19 => ?_)))
                refine zG_ic (p := 81) d_100_80 ci_1 rfl (zG_grd fun hg20 => (zG_ia (p := 82) d_100_81 hg20 rfl ?_))
                refine zG_clt (p1 := 87) (p2 := 85) d_100_82 (by decide) rfl ?_ ?_
                · refine zG_ii2 (p := 90) d_100_87 ci_m1 rfl (zG_goto (p := 9) d_100_90 (by decide) ?_)
                  exact ih x3 (x4 + (-1 : Int32))
                · refine zG_iln2 (p := 86) d_100_85 rfl (zG_isn1 (p := 87) d_100_86 rfl (zG_ii2 (p := 90) d_100_87 ci_m1 rfl (zG_goto (p := 9) d_100_90 (by decide) ?_)))
                  exact ih x4 (x4 + (-1 : Int32))
        · refine zG_goto (p := 87) d_100_33 (by decide) (zG_ii2 (p := 90) d_100_87 ci_m1 rfl (zG_goto (p := 9) d_100_90 (by decide) ?_))
          exact ih x3 (x4 + (-1 : Int32))

theorem s100 {sc : ZS} {d : Nat} {t : Nat} {M : ZI} {R : ZF} {L : ZY} : zG sc (d + 24) 100 0 [.val (.ref t), .unset, .unset] [] (M, R, L) (g100_given t M R L) (gEi (M, R, L)) := by
  unfold g100_given
  refine zG_ic (p := 1) d_100_0 ci_m1 rfl (zG_isn1 (p := 2) d_100_1 rfl (zG_aln0 (p := 3) d_100_2 rfl (zG_grd fun hg1 => (zG_gi (p := 6) d_100_3 ow_100 gf2_10_44 hg1 rfl (zG_ic (p := 7) d_100_6 ci_1 rfl (zG_sub (p := 8) d_100_7 rfl (zG_jsn2 (p := 9) d_100_8 rfl (fun x2 => ?_))))))))
  refine zG_bind (s100_l9 zfu (-1 : Int32) x2) ?_
  rintro x21 u22
  try dsimp only
  refine zG_iln1 (p := 94) d_100_93 rfl ?_
  exact zG_reti d_100_94 rt_100

theorem s108_l2 {sc : ZS} {d : Nat} {t : Nat} {a1 : Int32} {a2 : Int32} {M : ZI} {R : ZF} {L : ZY} {k3 : Unit → Option Int32} (hk3 : ∀ (_ : Unit) (u2 : Slot), zG sc d 108 71 [.val (.ref t), .val (.int a1), .val (.int a2), u2] [] (M, R, L) (k3 ()) (gEi (M, R, L))) : ∀ (n : Nat) (x1 : Int32), zG sc d 108 2 [.val (.ref t), .val (.int a1), .val (.int a2), .val (.int x1)] [] (M, R, L) (g108_l2 t a1 a2 M R L k3 n x1) (gEi (M, R, L)) := by
  intro n
  induction n with
  | zero => intros; exact zG_none
  | succ n ih =>
    intro x1
    rw [g108_l2]
    refine zG_iln3 (p := 3) d_108_2 rfl (zG_aln0 (p := 4) d_108_3 rfl (zG_grd fun hg4 => (zG_grb (p := 7) d_108_4 ow_108 gf2_10_22 hg4 rfl (fun r5 => ?_))))
    refine zG_grd fun hg6 => (zG_len51 (p := 8) d_108_7 hg6 rfl ?_)
    refine zG_cge (p1 := 71) (p2 := 11) d_108_8 (by decide) rfl ?_ ?_
    · exact hk3 () (.val (.int x1))
    · refine zG_iln1 (p := 12) d_108_11 rfl (zG_iln3 (p := 13) d_108_12 rfl (zG_shr (p := 14) d_108_13 rfl (zG_ic (p := 15) d_108_14 ci_1 rfl (zG_and (p := 16) d_108_15 rfl (zG_ic (p := 17) d_108_16 ci_1 rfl ?_)))))
      refine zG_cne (p1 := 65) (p2 := 20) d_108_17 (by decide) rfl ?_ ?_
      · refine zG_ii3 (p := 68) d_108_65 ci_1 rfl (zG_goto (p := 2) d_108_68 (by decide) ?_)
        exact ih (x1 + (1 : Int32))
      · refine zG_aln0 (p := 21) d_108_20 rfl (zG_grb (p := 24) d_108_21 ow_108 gf2_10_22 hg4 rfl (fun r7 => ?_))
        refine zG_iln3 (p := 25) d_108_24 rfl (zG_grd fun hg8 => (zG_aa51 (p := 26) d_108_25 hg8 rfl (fun r9 => ?_)))
        refine zG_ic (p := 27) d_108_26 ci_0 rfl (zG_grd fun hg10 => (zG_ia (p := 28) d_108_27 hg10 rfl (zG_iln2 (p := 29) d_108_28 rfl ?_)))
        refine zG_cne (p1 := 63) (p2 := 32) d_108_29 (by decide) rfl ?_ ?_
        · refine zG_ic (p := 64) d_108_63 ci_0 rfl ?_
          exact zG_retib d_108_64 rt_108 rfl
        · refine zG_aln0 (p := 33) d_108_32 rfl (zG_grb (p := 36) d_108_33 ow_108 gf2_10_22 hg4 rfl (fun r11 => ?_))
          refine zG_iln3 (p := 37) d_108_36 rfl (zG_grd fun hg12 => (zG_aa51 (p := 38) d_108_37 hg12 rfl (fun r13 => ?_)))
          refine zG_ic (p := 39) d_108_38 ci_5 rfl (zG_grd fun hg14 => (zG_ia (p := 40) d_108_39 hg14 rfl ?_))
          refine zG_zlt (p1 := 65) (p2 := 43) d_108_40 (by decide) rfl ?_ ?_
          · refine zG_ii3 (p := 68) d_108_65 ci_1 rfl (zG_goto (p := 2) d_108_68 (by decide) ?_)
            exact ih (x1 + (1 : Int32))
          · refine zG_iln1 (p := 44) d_108_43 rfl (zG_aln0 (p := 45) d_108_44 rfl (zG_gi (p := 48) d_108_45 ow_108 gf2_10_50 hg4 rfl (zG_or (p := 49) d_108_48 rfl (zG_aln0 (p := 50) d_108_49 rfl (zG_grb (p := 53) d_108_50 ow_108 gf2_10_22 hg4 rfl (fun r15 => ?_))))))
            refine zG_iln3 (p := 54) d_108_53 rfl (zG_grd fun hg16 => (zG_aa51 (p := 55) d_108_54 hg16 rfl (fun r17 => ?_)))
            refine zG_ic (p := 56) d_108_55 ci_5 rfl (zG_grd fun hg18 => (zG_ia (p := 57) d_108_56 hg18 rfl (zG_shr (p := 58) d_108_57 rfl (zG_ic (p := 59) d_108_58 ci_1 rfl (zG_and (p := 60) d_108_59 rfl ?_)))))
            refine zG_zne (p1 := 65) (p2 := 63) d_108_60 (by decide) rfl ?_ ?_
            · refine zG_ii3 (p := 68) d_108_65 ci_1 rfl (zG_goto (p := 2) d_108_68 (by decide) ?_)
              exact ih (x1 + (1 : Int32))
            · refine zG_ic (p := 64) d_108_63 ci_0 rfl ?_
              exact zG_retib d_108_64 rt_108 rfl

theorem s108 {sc : ZS} {d : Nat} {t : Nat} {a1 : Int32} {a2 : Int32} {M : ZI} {R : ZF} {L : ZY} : zG sc d 108 0 [.val (.ref t), .val (.int a1), .val (.int a2), .unset] [] (M, R, L) (g108_can t a1 a2 M R L) (gEi (M, R, L)) := by
  unfold g108_can
  refine zG_ic (p := 1) d_108_0 ci_0 rfl (zG_isn3 (p := 2) d_108_1 rfl ?_)
  refine s108_l2 (fun _ u19 => ?_) zfu (0 : Int32)
  try dsimp only
  refine zG_ic (p := 72) d_108_71 ci_1 rfl ?_
  exact zG_retib d_108_72 rt_108 rfl

theorem s109_l5 {sc : ZS} {d : Nat} {t : Nat} {a1 : Int32} {a2 : Int32} {M : ZI} {R : ZF} {L : ZY} : ∀ (n : Nat) (x1 : Int32) (x2 : Int32), zG sc d 109 5 [.val (.ref t), .val (.int a1), .val (.int a2), .val (.int x1), .val (.int x2)] [] (M, R, L) (g109_l5 t a1 a2 M R L n x1 x2) (gEj sc d 109 43 (fun (b : Int32) (s : Slot) => [.val (.ref t), .val (.int a1), .val (.int a2), .val (.int b), s]) (fun b => []) (fun b => (M, R, L))) := by
  intro n
  induction n with
  | zero => intros; exact zG_none
  | succ n ih =>
    intro x1 x2
    rw [g109_l5]
    refine zG_il4 (p := 7) d_109_5 rfl (zG_aln0 (p := 8) d_109_7 rfl (zG_grd fun hg3 => (zG_grb (p := 11) d_109_8 ow_109 gf2_10_22 hg3 rfl (fun r4 => ?_))))
    refine zG_grd fun hg5 => (zG_len51 (p := 12) d_109_11 hg5 rfl ?_)
    refine zG_cge (p1 := 43) (p2 := 15) d_109_12 (by decide) rfl ?_ ?_
    · exact zG_leaf (fun _ _ h => h (.val (.int x2)))
    · refine zG_iln1 (p := 16) d_109_15 rfl (zG_il4 (p := 18) d_109_16 rfl (zG_shr (p := 19) d_109_18 rfl (zG_ic (p := 20) d_109_19 ci_1 rfl (zG_and (p := 21) d_109_20 rfl (zG_ic (p := 22) d_109_21 ci_1 rfl ?_)))))
      refine zG_cne (p1 := 37) (p2 := 25) d_109_22 (by decide) rfl ?_ ?_
      · refine zG_ii4 (p := 40) d_109_37 ci_1 rfl (zG_goto (p := 5) d_109_40 (by decide) ?_)
        exact ih x1 (x2 + (1 : Int32))
      · refine zG_iln3 (p := 26) d_109_25 rfl (zG_aln0 (p := 27) d_109_26 rfl (zG_grb (p := 30) d_109_27 ow_109 gf2_10_22 hg3 rfl (fun r6 => ?_)))
        refine zG_il4 (p := 32) d_109_30 rfl (zG_grd fun hg7 => (zG_aa51 (p := 33) d_109_32 hg7 rfl (fun r8 => ?_)))
        refine zG_iln2 (p := 34) d_109_33 rfl (zG_grd fun hg9 => (zG_ia (p := 35) d_109_34 hg9 rfl (zG_add (p := 36) d_109_35 rfl (zG_jsn3 (p := 37) d_109_36 rfl (fun x10 => ?_)))))
        refine zG_ii4 (p := 40) d_109_37 ci_1 rfl (zG_goto (p := 5) d_109_40 (by decide) ?_)
        exact ih x10 (x2 + (1 : Int32))

theorem s109 {sc : ZS} {d : Nat} {t : Nat} {a1 : Int32} {a2 : Int32} {M : ZI} {R : ZF} {L : ZY} : zG sc d 109 0 [.val (.ref t), .val (.int a1), .val (.int a2), .unset, .unset] [] (M, R, L) (g109_sum t a1 a2 M R L) (gEi (M, R, L)) := by
  unfold g109_sum
  refine zG_ic (p := 1) d_109_0 ci_0 rfl (zG_isn3 (p := 2) d_109_1 rfl (zG_ic (p := 3) d_109_2 ci_0 rfl (zG_is4 (p := 5) d_109_3 rfl ?_)))
  refine zG_bind (s109_l5 zfu (0 : Int32) (0 : Int32)) ?_
  rintro x11 u12
  try dsimp only
  refine zG_iln3 (p := 44) d_109_43 rfl ?_
  exact zG_reti d_109_44 rt_109

theorem s107_l5 {sc : ZS} {d : Nat} {t : Nat} {a1 : Int32} {a2 : Int32} {M : ZI} {R : ZF} {L : ZY} : ∀ (n : Nat) (x1 : Int32) (x2 : Int32), zG sc (d + 1) 107 5 [.val (.ref t), .val (.int a1), .val (.int a2), .val (.int x1), .val (.int x2)] [] (M, R, L) (g107_l5 t a1 a2 M R L n x1 x2) (gEj sc (d + 1) 107 108 (fun (b : Int32) (s : Slot) => [.val (.ref t), .val (.int a1), .val (.int a2), .val (.int b), s]) (fun b => []) (fun b => (M, R, L))) := by
  intro n
  induction n with
  | zero => intros; exact zG_none
  | succ n ih =>
    intro x1 x2
    rw [g107_l5]
    refine zG_il4 (p := 7) d_107_5 rfl (zG_ic (p := 8) d_107_7 ci_1 rfl (zG_aln0 (p := 9) d_107_8 rfl (zG_grd fun hg3 => (zG_grb (p := 12) d_107_9 ow_107 gf2_10_22 hg3 rfl (fun r4 => ?_)))))
    refine zG_grd fun hg5 => (zG_len51 (p := 13) d_107_12 hg5 rfl (zG_shl (p := 14) d_107_13 rfl ?_))
    refine zG_cge (p1 := 108) (p2 := 17) d_107_14 (by decide) rfl ?_ ?_
    · exact zG_leaf (fun _ _ h => h (.val (.int x2)))
    · refine zG_il4 (p := 19) d_107_17 rfl (zG_aln0 (p := 20) d_107_19 rfl (zG_gi (p := 23) d_107_20 ow_107 gf2_10_50 hg3 rfl (zG_and (p := 24) d_107_23 rfl ?_)))
      refine zG_zne (p1 := 102) (p2 := 27) d_107_24 (by decide) rfl ?_ ?_
      · refine zG_ii4 (p := 105) d_107_102 ci_1 rfl (zG_goto (p := 5) d_107_105 (by decide) ?_)
        exact ih x1 (x2 + (1 : Int32))
      · refine zG_aln0 (p := 28) d_107_27 rfl (zG_il4 (p := 30) d_107_28 rfl (zG_iln1 (p := 31) d_107_30 rfl (zG_cV2i (p := 34) (c := 10) ⟨ow_108, by decide, zdr_108⟩ hg3 d_107_31 ow_107 rs2_10_94 kk_108 vn_108 rfl s108 rfl rfl rfl rfl (fun v6 => ?_))))
        refine zG_zeq (p1 := 102) (p2 := 37) d_107_34 (by decide) rfl ?_ ?_
        · refine zG_ii4 (p := 105) d_107_102 ci_1 rfl (zG_goto (p := 5) d_107_105 (by decide) ?_)
          exact ih x1 (x2 + (1 : Int32))
        · refine zG_aln0 (p := 38) d_107_37 rfl (zG_il4 (p := 40) d_107_38 rfl (zG_ic (p := 41) d_107_40 ci_1 rfl (zG_cV2i (p := 44) (c := 10) ⟨ow_109, by decide, zdr_109⟩ hg3 d_107_41 ow_107 rs2_10_98 kk_109 vn_109 rfl s109 rfl rfl rfl rfl (fun v7 => ?_))))
          refine zG_iln2 (p := 45) d_107_44 rfl ?_
          refine zG_cle (p1 := 51) (p2 := 48) d_107_45 (by decide) rfl ?_ ?_
          · refine zG_aln0 (p := 52) d_107_51 rfl (zG_il4 (p := 54) d_107_52 rfl (zG_ic (p := 55) d_107_54 ci_2 rfl (zG_cV2i (p := 58) (c := 10) ⟨ow_109, by decide, zdr_109⟩ hg3 d_107_55 ow_107 rs2_10_98 kk_109 vn_109 rfl s109 rfl rfl rfl rfl (fun v8 => ?_))))
            refine zG_aln0 (p := 59) d_107_58 rfl (zG_iln3 (p := 60) d_107_59 rfl (zG_ic (p := 61) d_107_60 ci_2 rfl (zG_cV2i (p := 64) (c := 10) ⟨ow_109, by decide, zdr_109⟩ hg3 d_107_61 ow_107 rs2_10_98 kk_109 vn_109 rfl s109 rfl rfl rfl rfl (fun v9 => ?_))))
            refine zG_cgt (p1 := 99) (p2 := 67) d_107_64 (by decide) rfl ?_ ?_
            · refine zG_il4 (p := 101) d_107_99 rfl (zG_isn3 (p := 102) d_107_101 rfl (zG_ii4 (p := 105) d_107_102 ci_1 rfl (zG_goto (p := 5) d_107_105 (by decide) ?_)))
              exact ih x2 (x2 + (1 : Int32))
            · refine zG_aln0 (p := 68) d_107_67 rfl (zG_il4 (p := 70) d_107_68 rfl (zG_ic (p := 71) d_107_70 ci_2 rfl (zG_cV2i (p := 74) (c := 10) ⟨ow_109, by decide, zdr_109⟩ hg3 d_107_71 ow_107 rs2_10_98 kk_109 vn_109 rfl s109 rfl rfl rfl rfl (fun v10 => ?_))))
              refine zG_aln0 (p := 75) d_107_74 rfl (zG_iln3 (p := 76) d_107_75 rfl (zG_ic (p := 77) d_107_76 ci_2 rfl (zG_cV2i (p := 80) (c := 10) ⟨ow_109, by decide, zdr_109⟩ hg3 d_107_77 ow_107 rs2_10_98 kk_109 vn_109 rfl s109 rfl rfl rfl rfl (fun v11 => ?_))))
              refine zG_cne (p1 := 102) (p2 := 83) d_107_80 (by decide) rfl ?_ ?_
              · refine zG_ii4 (p := 105) d_107_102 ci_1 rfl (zG_goto (p := 5) d_107_105 (by decide) ?_)
                exact ih x1 (x2 + (1 : Int32))
              · refine zG_aln0 (p := 84) d_107_83 rfl (zG_il4 (p := 86) d_107_84 rfl (zG_ic (p := 87) d_107_86 ci_1 rfl (zG_cV2i (p := 90) (c := 10) ⟨ow_109, by decide, zdr_109⟩ hg3 d_107_87 ow_107 rs2_10_98 kk_109 vn_109 rfl s109 rfl rfl rfl rfl (fun v12 => ?_))))
                refine zG_aln0 (p := 91) d_107_90 rfl (zG_iln3 (p := 92) d_107_91 rfl (zG_ic (p := 93) d_107_92 ci_1 rfl (zG_cV2i (p := 96) (c := 10) ⟨ow_109, by decide, zdr_109⟩ hg3 d_107_93 ow_107 rs2_10_98 kk_109 vn_109 rfl s109 rfl rfl rfl rfl (fun v13 => ?_))))
                refine zG_cge (p1 := 102) (p2 := 99) d_107_96 (by decide) rfl ?_ ?_
                · refine zG_ii4 (p := 105) d_107_102 ci_1 rfl (zG_goto (p := 5) d_107_105 (by decide) ?_)
                  exact ih x1 (x2 + (1 : Int32))
                · refine zG_il4 (p := 101) d_107_99 rfl (zG_isn3 (p := 102) d_107_101 rfl (zG_ii4 (p := 105) d_107_102 ci_1 rfl (zG_goto (p := 5) d_107_105 (by decide) ?_)))
                  exact ih x2 (x2 + (1 : Int32))
          · refine zG_goto (p := 102) d_107_48 (by decide) (zG_ii4 (p := 105) d_107_102 ci_1 rfl (zG_goto (p := 5) d_107_105 (by decide) ?_))
            exact ih x1 (x2 + (1 : Int32))

theorem s107 {sc : ZS} {d : Nat} {t : Nat} {a1 : Int32} {a2 : Int32} {M : ZI} {R : ZF} {L : ZY} : zG sc (d + 1) 107 0 [.val (.ref t), .val (.int a1), .val (.int a2), .unset, .unset] [] (M, R, L) (g107_plan t a1 a2 M R L) (gEi (M, R, L)) := by
  unfold g107_plan
  refine zG_ic (p := 1) d_107_0 ci_0 rfl (zG_isn3 (p := 2) d_107_1 rfl (zG_ic (p := 3) d_107_2 ci_0 rfl (zG_is4 (p := 5) d_107_3 rfl ?_)))
  refine zG_bind (s107_l5 zfu (0 : Int32) (0 : Int32)) ?_
  rintro x14 u15
  try dsimp only
  refine zG_iln3 (p := 109) d_107_108 rfl ?_
  exact zG_reti d_107_109 rt_107

theorem s110 {sc : ZS} {d : Nat} {t : Nat} {a1 : Int32} {a2 : Int32} {M : ZI} {R : ZF} {L : ZY} : zG sc (d + 1) 110 0 [.val (.ref t), .val (.int a1), .val (.int a2), .unset] [] (M, R, L) (g110_wear t a1 a2 M R L) (gEi (M, R, L)) := by
  unfold g110_wear
  refine zG_aln0 (p := 1) d_110_0 rfl (zG_grd fun hg1 => (zG_gro (p := 4) d_110_1 ow_110 gf2_10_57 hg1 rfl (zG_aqn3 (p := 5) d_110_4 rfl (zG_aon3 (p := 6) d_110_5 rfl ?_))))
  refine zG_nno (p1 := 16) (p2 := 9) d_110_6 (by decide) rfl (fun _ => ?_) (fun r2 hr3 => ?_)
  · refine zG_iln2 (p := 10) d_110_9 rfl (zG_bi (p := 12) d_110_10 cb_8 rfl (zG_div (p := 13) d_110_12 (by decide) rfl (zG_goto (p := 69) d_110_13 (by decide) ?_)))
    exact zG_reti d_110_69 rt_110
  · skip
    refine zG_iln2 (p := 17) d_110_16 rfl (zG_akn3 (p := 18) d_110_17 rfl hr3 (zG_ic (p := 19) d_110_18 ci_4 rfl (zG_grd fun hg4 => (zG_ia (p := 20) d_110_19 hg4 rfl ?_))))
    refine zG_jn (P := fun g => ∀ (_ : Unit), zG sc (d + 1) 110 35 [.val (.ref t), .val (.int a1), .val (.int a2), .val (va_rf (R t 14))] [] (M, R, L) (g ()) (gEi (M, R, L))) ?_ (fun j12 hj12 => ?_)
    · intro _
      try dsimp only
      refine zG_iln2 (p := 36) d_110_35 rfl (zG_ic (p := 37) d_110_36 ci_3 rfl (zG_div (p := 38) d_110_37 (by decide) rfl (zG_aln0 (p := 39) d_110_38 rfl (zG_grb (p := 42) d_110_39 ow_110 gf2_10_18 hg1 rfl (fun r5 => ?_)))))
      refine zG_iln1 (p := 43) d_110_42 rfl (zG_grd fun hg6 => (zG_aa51 (p := 44) d_110_43 hg6 rfl (fun r7 => ?_)))
      refine zG_bi (p := 46) d_110_44 cb_6 rfl (zG_grd fun hg8 => (zG_ia (p := 47) d_110_46 hg8 rfl (zG_grd fun hg9 => (zG_s1i (p := 50) hg9 d_110_47 ow_110 rs2_10_72 kk_28 rfl (fun q hL => s28 hL) rfl rfl rfl rfl (fun v10 => ?_)))))
      refine zG_add (p := 51) d_110_50 rfl (zG_ic (p := 52) d_110_51 ci_0 rfl (zG_bi (p := 54) d_110_52 cb_24 rfl (zG_cS3i (p := 57) d_110_54 ow_110 rs2_10_66 kk_103 rfl s103 rfl rfl rfl rfl (fun v11 => ?_))))
      refine zG_goto (p := 69) d_110_57 (by decide) ?_
      exact zG_reti d_110_69 rt_110
    · refine zG_cgt (p1 := 35) (p2 := 23) d_110_20 (by decide) rfl ?_ ?_
      · exact hj12 ()
      · refine zG_aln0 (p := 24) d_110_23 rfl (zG_grb (p := 27) d_110_24 ow_110 gf2_10_18 hg1 rfl (fun r13 => ?_))
        refine zG_iln1 (p := 28) d_110_27 rfl (zG_grd fun hg14 => (zG_aa51 (p := 29) d_110_28 hg14 rfl (fun r15 => ?_)))
        refine zG_ic (p := 30) d_110_29 ci_1 rfl (zG_grd fun hg16 => (zG_ia (p := 31) d_110_30 hg16 rfl (zG_ic (p := 32) d_110_31 ci_3 rfl ?_)))
        refine zG_cge (p1 := 60) (p2 := 35) d_110_32 (by decide) rfl ?_ ?_
        · refine zG_akn3 (p := 61) d_110_60 rfl hr3 (zG_ic (p := 62) d_110_61 ci_5 rfl (zG_grd fun hg17 => (zG_ia (p := 63) d_110_62 hg17 rfl (zG_ic (p := 64) d_110_63 ci_0 rfl (zG_bi (p := 66) d_110_64 cb_24 rfl (zG_cS3i (p := 69) d_110_66 ow_110 rs2_10_66 kk_103 rfl s103 rfl rfl rfl rfl (fun v18 => ?_)))))))
          exact zG_reti d_110_69 rt_110
        · exact hj12 ()

theorem s111 {sc : ZS} {d : Nat} {t : Nat} {a1 : Int32} {a2 : Int32} {M : ZI} {R : ZF} {L : ZY} : zG sc (d + 1) 111 0 [.val (.ref t), .val (.int a1), .val (.int a2)] [] (M, R, L) (g111_notice t a1 a2 M R L) (gEi (M, R, L)) := by
  unfold g111_notice
  refine zG_aln0 (p := 1) d_111_0 rfl (zG_grd fun hg1 => (zG_gro (p := 4) d_111_1 ow_111 gf2_10_57 hg1 rfl ?_))
  refine zG_nno (p1 := 12) (p2 := 7) d_111_4 (by decide) rfl (fun _ => ?_) (fun r2 hr3 => ?_)
  · refine zG_bi (p := 9) d_111_7 cb_100 rfl (zG_goto (p := 38) d_111_9 (by decide) ?_)
    exact zG_reti d_111_38 rt_111
  · skip
    refine zG_iln2 (p := 13) d_111_12 rfl (zG_aln0 (p := 14) d_111_13 rfl (zG_grb (p := 17) d_111_14 ow_111 gf2_10_57 hg1 rfl (fun r4 => ?_)))
    refine zG_bi (p := 19) d_111_17 cb_6 rfl (zG_grd fun hg5 => (zG_ia (p := 20) d_111_19 hg5 rfl (zG_mul (p := 21) d_111_20 rfl (zG_aln0 (p := 22) d_111_21 rfl (zG_gi (p := 25) d_111_22 ow_111 gf2_10_32 hg1 rfl (zG_ic (p := 26) d_111_25 ci_3 rfl (zG_rem (p := 27) d_111_26 (by decide) rfl ?_)))))))
    refine zG_bi (p := 29) d_111_27 cb_50 rfl (zG_mul (p := 30) d_111_29 rfl (zG_add (p := 31) d_111_30 rfl (zG_ic (p := 32) d_111_31 ci_0 rfl (zG_si (p := 35) d_111_32 cs_1000 rfl (zG_cS3i (p := 38) d_111_35 ow_111 rs2_10_66 kk_103 rfl s103 rfl rfl rfl rfl (fun v6 => ?_))))))
    exact zG_reti d_111_38 rt_111

theorem s112 {sc : ZS} {d : Nat} {t : Nat} {a1 : Int32} {M : ZI} {R : ZF} {L : ZY} : zG sc d 112 0 [.val (.ref t), .val (.int a1)] [] (M, R, L) (g112_draw t a1 M R L) gEm := by
  unfold g112_draw
  refine zG_aln0 (p := 1) d_112_0 rfl (zG_ldc (p := 3) d_112_1 ow_112 ks_10_64 kn_10_64 rfl (zG_aln0 (p := 4) d_112_3 rfl (zG_grd fun hg1 => (zG_gi (p := 7) d_112_4 ow_112 gf2_10_29 hg1 rfl (zG_mul (p := 8) d_112_7 rfl (zG_ldc (p := 10) d_112_8 ow_112 ks_10_65 kn_10_65 rfl (zG_add (p := 11) d_112_10 rfl ?_)))))))
  refine zG_pi (p := 14) d_112_11 ow_112 gf2_10_29 (Or.inl rfl) (Or.inl rfl) fo_112_10_0 hg1 rfl (fun M2 => ?_)
  refine zG_aln0 (p := 15) d_112_14 rfl (zG_gi (p := 18) d_112_15 ow_112 gf2_10_29 hg1 rfl (zG_bi (p := 20) d_112_18 cb_8 rfl (zG_ush (p := 21) d_112_20 rfl (zG_iln1 (p := 22) d_112_21 rfl (zG_remg (p := 23) d_112_22 rfl ?_)))))
  exact zG_retm d_112_23 rt_112

theorem s98_l245 {sc : ZS} {d : Nat} {t : Nat} {a1 : Int32} {x10 : Int32} {R15 : ZF} {L16 : ZY} {u18 : Slot} {u19 : Slot} {u20 : Slot} {u21 : Slot} : ∀ (n : Nat) (x22 : Int32) (M23 : ZI), zG sc (d + 25) 98 245 [.val (.ref t), .val (.int a1), .val (.int x10), .val (.int x22), u18, u19, u20, u21] [] (M23, R15, L16) (g98_l245 t x10 R15 L16 n x22 M23) (gEj sc (d + 25) 98 309 (fun (b : ZI) (s : Slot) => [.val (.ref t), .val (.int a1), .val (.int x10), s, u18, u19, u20, u21]) (fun b => []) (fun b => (b, R15, L16))) := by
  intro n
  induction n with
  | zero => intros; exact zG_none
  | succ n ih =>
    intro x22 M23
    rw [g98_l245]
    refine zG_iln3 (p := 246) d_98_245 rfl (zG_aln0 (p := 247) d_98_246 rfl (zG_grd fun hg24 => (zG_gi (p := 250) d_98_247 ow_98 gf2_10_44 hg24 rfl ?_)))
    refine zG_cge (p1 := 309) (p2 := 253) d_98_250 (by decide) rfl ?_ ?_
    · exact zG_leaf (fun _ _ h => h (.val (.int x22)))
    · refine zG_aln0 (p := 254) d_98_253 rfl (zG_grb (p := 257) d_98_254 ow_98 gf2_10_18 hg24 rfl (fun r25 => ?_))
      refine zG_iln3 (p := 258) d_98_257 rfl (zG_grd fun hg26 => (zG_aa51 (p := 259) d_98_258 hg26 rfl (fun r27 => ?_)))
      refine zG_ic (p := 260) d_98_259 ci_4 rfl (zG_iln3 (p := 261) d_98_260 rfl (zG_iln2 (p := 262) d_98_261 rfl ?_))
      refine zG_bind (σ := Unit) (β := Int32) (pj := 279) (lj := fun (b : Int32) (s : Unit) => [.val (.ref t), .val (.int a1), .val (.int x10), .val (.int x22), u18, u19, u20, u21]) (sj := fun b => [.int b, .int (4 : Int32), .ref r27]) (hj := fun b => (M23, R15, L16)) ?_ ?_
      · refine zG_cne (p1 := 269) (p2 := 265) d_98_262 (by decide) rfl ?_ ?_
        · refine zG_aln0 (p := 270) d_98_269 rfl (zG_grb (p := 273) d_98_270 ow_98 gf2_10_18 hg24 rfl (fun r28 => ?_))
          refine zG_iln3 (p := 274) d_98_273 rfl (zG_grd fun hg29 => (zG_aa51 (p := 275) d_98_274 hg29 rfl (fun r30 => ?_)))
          refine zG_ic (p := 276) d_98_275 ci_4 rfl (zG_grd fun hg31 => (zG_ia (p := 277) d_98_276 hg31 rfl (zG_ic (p := 278) d_98_277 ci_1 rfl (zG_add (p := 279) d_98_278 rfl ?_))))
          exact zG_leaf (fun _ _ h => h ())
        · refine zG_ic (p := 266) d_98_265 ci_0 rfl (zG_goto (p := 279) d_98_266 (by decide) ?_)
          exact zG_leaf (fun _ _ h => h ())
      · rintro v32 _
        try dsimp only
        refine zG_grd fun hg33 => (zG_ist (p := 280) d_98_279 hg33 rfl (fun M34 => ?_))
        refine zG_aln0 (p := 281) d_98_280 rfl (zG_grb (p := 284) d_98_281 ow_98 gf2_10_18 hg24 rfl (fun r35 => ?_))
        refine zG_iln3 (p := 285) d_98_284 rfl (zG_grd fun hg36 => (zG_aa51 (p := 286) d_98_285 hg36 rfl (fun r37 => ?_)))
        refine zG_ic (p := 287) d_98_286 ci_0 rfl (zG_bi (p := 289) d_98_287 cb_99 rfl (zG_aln0 (p := 290) d_98_289 rfl (zG_grb (p := 293) d_98_290 ow_98 gf2_10_18 hg24 rfl (fun r38 => ?_))))
        refine zG_iln3 (p := 294) d_98_293 rfl (zG_grd fun hg39 => (zG_aa51 (p := 295) d_98_294 hg39 rfl (fun r40 => ?_)))
        refine zG_ic (p := 296) d_98_295 ci_0 rfl (zG_grd fun hg41 => (zG_ia (p := 297) d_98_296 hg41 rfl (zG_ic (p := 298) d_98_297 ci_1 rfl (zG_add (p := 299) d_98_298 rfl (zG_min (p := 302) d_98_299 ow_98 rs2_10_122 rfl rfl (zG_grd fun hg42 => (zG_ist (p := 303) d_98_302 hg42 rfl (fun M43 => ?_))))))))
        refine zG_ii3 (p := 306) d_98_303 ci_1 rfl (zG_goto (p := 245) d_98_306 (by decide) ?_)
        exact ih (x22 + (1 : Int32)) M43

theorem s98_l138 {sc : ZS} {d : Nat} {t : Nat} {a1 : Int32} {x10 : Int32} {v50 : Int32} {v51 : Int32} {v55 : Int32} {v56 : Int32} : ∀ (n : Nat) (x60 : Int32) (M61 : ZI) (R62 : ZF) (L63 : ZY), zG sc (d + 25) 98 138 [.val (.ref t), .val (.int a1), .val (.int x10), .val (.int v50), .val (.int v51), .val (.int v55), .val (.int v56), .val (.int x60)] [] (M61, R62, L63) (g98_l138 t a1 v50 n x60 M61 R62 L63) (gEj sc (d + 25) 98 181 (fun (b : ZI × ZF × ZY) (s : Slot) => [.val (.ref t), .val (.int a1), .val (.int x10), .val (.int v50), .val (.int v51), .val (.int v55), .val (.int v56), s]) (fun b => []) (fun b => (b.1, b.2.1, b.2.2))) := by
  intro n
  induction n with
  | zero => intros; exact zG_none
  | succ n ih =>
    intro x60 M61 R62 L63
    rw [g98_l138]
    refine zG_il7 (p := 140) d_98_138 rfl (zG_aln0 (p := 141) d_98_140 rfl (zG_grd fun hg64 => (zG_grb (p := 144) d_98_141 ow_98 gf2_10_22 hg64 rfl (fun r65 => ?_))))
    refine zG_grd fun hg66 => (zG_len51 (p := 145) d_98_144 hg66 rfl ?_)
    refine zG_cge (p1 := 181) (p2 := 148) d_98_145 (by decide) rfl ?_ ?_
    · exact zG_leaf (fun _ _ h => h (.val (.int x60)))
    · refine zG_iln3 (p := 149) d_98_148 rfl (zG_il7 (p := 151) d_98_149 rfl (zG_shr (p := 152) d_98_151 rfl (zG_ic (p := 153) d_98_152 ci_1 rfl (zG_and (p := 154) d_98_153 rfl (zG_ic (p := 155) d_98_154 ci_1 rfl ?_)))))
      refine zG_cne (p1 := 175) (p2 := 158) d_98_155 (by decide) rfl ?_ ?_
      · refine zG_ii7 (p := 178) d_98_175 ci_1 rfl (zG_goto (p := 138) d_98_178 (by decide) ?_)
        exact ih (x60 + (1 : Int32)) M61 R62 L63
      · refine zG_aln0 (p := 159) d_98_158 rfl (zG_ic (p := 160) d_98_159 ci_3 rfl (zG_il7 (p := 162) d_98_160 rfl (zG_aln0 (p := 163) d_98_162 rfl (zG_grb (p := 166) d_98_163 ow_98 gf2_10_22 hg64 rfl (fun r67 => ?_)))))
        refine zG_il7 (p := 168) d_98_166 rfl (zG_grd fun hg68 => (zG_aa51 (p := 169) d_98_168 hg68 rfl (fun r69 => ?_)))
        refine zG_ic (p := 170) d_98_169 ci_1 rfl (zG_grd fun hg70 => (zG_ia (p := 171) d_98_170 hg70 rfl (zG_iln1 (p := 172) d_98_171 rfl (zG_cV4v (p := 175) (c := 10) ⟨ow_99, by decide, zdr_99⟩ hg64 d_98_172 ow_98 rs2_10_106 kk_99 vn_99 rfl s99 rfl rfl rfl rfl (fun M71 R72 L73 => ?_)))))
        try dsimp only
        refine zG_ii7 (p := 178) d_98_175 ci_1 rfl (zG_goto (p := 138) d_98_178 (by decide) ?_)
        exact ih (x60 + (1 : Int32)) M71 R72 L73

theorem s98 {sc : ZS} {d : Nat} {t : Nat} {a1 : Int32} {M : ZI} {R : ZF} {L : ZY} : zG sc (d + 25) 98 0 [.val (.ref t), .val (.int a1), .unset, .unset, .unset, .unset, .unset, .unset] [] (M, R, L) (g98_passes t a1 M R L) gEm := by
  unfold g98_passes
  refine zG_ic (p := 1) d_98_0 ci_m1 rfl (zG_isn2 (p := 2) d_98_1 rfl (zG_aln0 (p := 3) d_98_2 rfl (zG_grd fun hg1 => (zG_gi (p := 6) d_98_3 ow_98 gf2_10_35 hg1 rfl (zG_aln0 (p := 7) d_98_6 rfl (zG_gi (p := 10) d_98_7 ow_98 gf2_10_13 hg1 rfl ?_))))))
  refine zG_bind (σ := Unit) (β := Int32 × ZI × ZF × ZY) (pj := 58) (lj := fun (b : Int32 × ZI × ZF × ZY) (s : Unit) => [.val (.ref t), .val (.int a1), .val (.int b.1), .unset, .unset, .unset, .unset, .unset]) (sj := fun b => []) (hj := fun b => (b.2.1, b.2.2.1, b.2.2.2)) ?_ ?_
  · refine zG_clt (p1 := 41) (p2 := 13) d_98_10 (by decide) rfl ?_ ?_
    · refine zG_aln0 (p := 42) d_98_41 rfl (zG_cV0i (p := 45) (c := 10) ⟨ow_100, by decide, zdr_100⟩ hg1 d_98_42 ow_98 rs2_10_110 kk_100 vn_100 rfl s100 rfl rfl rfl rfl (fun v2 => ?_))
      refine zG_isn2 (p := 46) d_98_45 rfl (zG_iln2 (p := 47) d_98_46 rfl ?_)
      refine zG_zge (p1 := 58) (p2 := 50) d_98_47 (by decide) rfl ?_ ?_
      · exact zG_leaf (fun _ _ h => h ())
      · refine zG_aln0 (p := 51) d_98_50 rfl (zG_ic (p := 52) d_98_51 ci_2 rfl (zG_ic (p := 53) d_98_52 ci_m1 rfl (zG_ic (p := 54) d_98_53 ci_0 rfl (zG_iln1 (p := 55) d_98_54 rfl (zG_cV4v (p := 58) (c := 10) ⟨ow_99, by decide, zdr_99⟩ hg1 d_98_55 ow_98 rs2_10_106 kk_99 vn_99 rfl s99 rfl rfl rfl rfl (fun M3 R4 L5 => ?_))))))
        try dsimp only
        exact zG_leaf (fun _ _ h => h ())
    · refine zG_aln0 (p := 14) d_98_13 rfl (zG_ic (p := 15) d_98_14 ci_0 rfl (zG_aln0 (p := 16) d_98_15 rfl (zG_gi (p := 19) d_98_16 ow_98 gf2_10_35 hg1 rfl (zG_aln0 (p := 20) d_98_19 rfl (zG_gi (p := 23) d_98_20 ow_98 gf2_10_7 hg1 rfl (zG_sub (p := 24) d_98_23 rfl (zG_max (p := 27) d_98_24 ow_98 rs2_10_101 rfl rfl ?_)))))))
      refine zG_pi (p := 30) d_98_27 ow_98 gf2_10_35 (Or.inl rfl) (Or.inl rfl) fo_98_10_2 hg1 rfl (fun M6 => ?_)
      refine zG_aln0 (p := 31) d_98_30 rfl (zG_ic (p := 32) d_98_31 ci_1 rfl (zG_ic (p := 33) d_98_32 ci_m1 rfl (zG_ic (p := 34) d_98_33 ci_0 rfl (zG_iln1 (p := 35) d_98_34 rfl (zG_cV4v (p := 38) (c := 10) ⟨ow_99, by decide, zdr_99⟩ hg1 d_98_35 ow_98 rs2_10_106 kk_99 vn_99 rfl s99 rfl rfl rfl rfl (fun M7 R8 L9 => ?_))))))
      try dsimp only
      refine zG_goto (p := 58) d_98_38 (by decide) ?_
      exact zG_leaf (fun _ _ h => h ())
  · rintro ⟨x10, M11, R12, L13⟩ _
    try dsimp only
    refine zG_iln2 (p := 59) d_98_58 rfl ?_
    refine zG_jn (P := fun g => ∀ (M14 : ZI) (R15 : ZF) (L16 : ZY) (u17 : Slot) (u18 : Slot) (u19 : Slot) (u20 : Slot) (u21 : Slot), zG sc (d + 25) 98 243 [.val (.ref t), .val (.int a1), .val (.int x10), u17, u18, u19, u20, u21] [] (M14, R15, L16) (g M14 R15 L16) gEm) ?_ (fun j48 hj48 => ?_)
    · intro M14 R15 L16 u17 u18 u19 u20 u21
      try dsimp only
      refine zG_ic (p := 244) d_98_243 ci_0 rfl (zG_isn3 (p := 245) d_98_244 rfl ?_)
      refine zG_bind (s98_l245 zfu (0 : Int32) M14) ?_
      rintro M44 u45
      try dsimp only
      refine zG_aln0 (p := 310) d_98_309 rfl (zG_dup (p := 311) d_98_310 rfl rfl (zG_grd fun hg46 => (zG_gi (p := 314) d_98_311 ow_98 gf2_10_32 hg46 rfl (zG_ic (p := 315) d_98_314 ci_1 rfl (zG_add (p := 316) d_98_315 rfl (zG_pi (p := 319) d_98_316 ow_98 gf2_10_32 (Or.inl rfl) (Or.inl rfl) fo_98_10_1 hg46 rfl (fun M47 => ?_)))))))
      refine zG_iln2 (p := 320) d_98_319 rfl ?_
      exact zG_retm d_98_320 rt_98
    · refine zG_zlt (p1 := 243) (p2 := 62) d_98_59 (by decide) rfl ?_ ?_
      · exact hj48 M11 R12 L13 (.unset) (.unset) (.unset) (.unset) (.unset)
      · refine zG_aln0 (p := 63) d_98_62 rfl (zG_iln2 (p := 64) d_98_63 rfl (zG_bi (p := 66) d_98_64 cb_24 rfl (zG_aln0 (p := 67) d_98_66 rfl (zG_grd fun hg49 => (zG_gi (p := 70) d_98_67 ow_98 gf2_10_35 hg49 rfl (zG_sub (p := 71) d_98_70 rfl (zG_cV2i (p := 74) (c := 10) ⟨ow_107, by decide, zdr_107⟩ hg49 d_98_71 ow_98 rs2_10_114 kk_107 vn_107 rfl s107 rfl rfl rfl rfl (fun v50 => ?_))))))))
        refine zG_isn3 (p := 75) d_98_74 rfl (zG_aln0 (p := 76) d_98_75 rfl (zG_iln3 (p := 77) d_98_76 rfl (zG_ic (p := 78) d_98_77 ci_1 rfl (zG_cV2i (p := 81) (c := 10) ⟨ow_109, by decide, zdr_109⟩ hg49 d_98_78 ow_98 rs2_10_98 kk_109 vn_109 rfl s109 rfl rfl rfl rfl (fun v51 => ?_)))))
        refine zG_is4 (p := 83) d_98_81 rfl (zG_aln0 (p := 84) d_98_83 rfl (zG_dup (p := 85) d_98_84 rfl rfl (zG_gi (p := 88) d_98_85 ow_98 gf2_10_50 hg49 rfl (zG_iln3 (p := 89) d_98_88 rfl (zG_or (p := 90) d_98_89 rfl (zG_pi (p := 93) d_98_90 ow_98 gf2_10_50 (Or.inl rfl) (Or.inl rfl) fo_98_10_9 hg49 rfl (fun M52 => ?_)))))))
        refine zG_aln0 (p := 94) d_98_93 rfl (zG_dup (p := 95) d_98_94 rfl rfl (zG_gi (p := 98) d_98_95 ow_98 gf2_10_41 hg49 rfl (zG_aln0 (p := 99) d_98_98 rfl (zG_iln3 (p := 100) d_98_99 rfl (zG_ic (p := 101) d_98_100 ci_2 rfl (zG_cV2i (p := 104) (c := 10) ⟨ow_109, by decide, zdr_109⟩ hg49 d_98_101 ow_98 rs2_10_98 kk_109 vn_109 rfl s109 rfl rfl rfl rfl (fun v53 => ?_)))))))
        refine zG_add (p := 105) d_98_104 rfl (zG_pi (p := 108) d_98_105 ow_98 gf2_10_41 (Or.inl rfl) (Or.inl rfl) fo_98_10_6 hg49 rfl (fun M54 => ?_))
        refine zG_aln0 (p := 109) d_98_108 rfl (zG_iln2 (p := 110) d_98_109 rfl (zG_il4 (p := 112) d_98_110 rfl (zG_cV2i (p := 115) (c := 10) ⟨ow_110, by decide, zdr_110⟩ hg49 d_98_112 ow_98 rs2_10_117 kk_110 vn_110 rfl s110 rfl rfl rfl rfl (fun v55 => ?_))))
        refine zG_is5 (p := 117) d_98_115 rfl (zG_aln0 (p := 118) d_98_117 rfl (zG_iln2 (p := 119) d_98_118 rfl (zG_il4 (p := 121) d_98_119 rfl (zG_cV2i (p := 124) (c := 10) ⟨ow_111, by decide, zdr_111⟩ hg49 d_98_121 ow_98 rs2_10_119 kk_111 vn_111 rfl s111 rfl rfl rfl rfl (fun v56 => ?_)))))
        refine zG_is6 (p := 126) d_98_124 rfl (zG_aln0 (p := 127) d_98_126 rfl (zG_ic (p := 128) d_98_127 ci_0 rfl (zG_iln2 (p := 129) d_98_128 rfl (zG_il4 (p := 131) d_98_129 rfl (zG_iln1 (p := 132) d_98_131 rfl (zG_cV4v (p := 135) (c := 10) ⟨ow_99, by decide, zdr_99⟩ hg49 d_98_132 ow_98 rs2_10_106 kk_99 vn_99 rfl s99 rfl rfl rfl rfl (fun M57 R58 L59 => ?_)))))))
        try dsimp only
        refine zG_ic (p := 136) d_98_135 ci_0 rfl (zG_is7 (p := 138) d_98_136 rfl ?_)
        refine zG_bind (s98_l138 zfu (0 : Int32) M57 R58 L59) ?_
        rintro ⟨M74, R75, L76⟩ u77
        try dsimp only
        refine zG_aln0 (p := 182) d_98_181 rfl (zG_grd fun hg78 => (zG_grb (p := 185) d_98_182 ow_98 gf2_10_18 hg78 rfl (fun r79 => ?_)))
        refine zG_iln2 (p := 186) d_98_185 rfl (zG_grd fun hg80 => (zG_aa51 (p := 187) d_98_186 hg80 rfl (fun r81 => ?_)))
        refine zG_ic (p := 188) d_98_187 ci_3 rfl (zG_dup2 (p := 189) d_98_188 rfl rfl rfl (zG_grd fun hg82 => (zG_ia (p := 190) d_98_189 hg82 rfl (zG_ic (p := 191) d_98_190 ci_1 rfl (zG_add (p := 192) d_98_191 rfl (zG_ist (p := 193) d_98_192 hg82 rfl (fun M83 => ?_)))))))
        refine zG_aln0 (p := 194) d_98_193 rfl (zG_bi (p := 196) d_98_194 cb_24 rfl (zG_aln0 (p := 197) d_98_196 rfl (zG_gi (p := 200) d_98_197 ow_98 gf2_10_35 hg78 rfl (zG_il5 (p := 202) d_98_200 rfl (zG_add (p := 203) d_98_202 rfl (zG_min (p := 206) d_98_203 ow_98 rs2_10_122 rfl rfl (zG_pi (p := 209) d_98_206 ow_98 gf2_10_35 (Or.inl rfl) (Or.inl rfl) fo_98_10_2 hg78 rfl (fun M84 => ?_))))))))
        refine zG_iln1 (p := 210) d_98_209 rfl ?_
        refine zG_zeq (p1 := 243) (p2 := 213) d_98_210 (by decide) rfl ?_ ?_
        · exact hj48 M84 R75 L76 (.val (.int v50)) (.val (.int v51)) (.val (.int v55)) (.val (.int v56)) (u77)
        · refine zG_aln0 (p := 214) d_98_213 rfl (zG_si (p := 217) d_98_214 cs_1000 rfl (zG_cV1m (p := 220) (c := 10) ⟨ow_112, by decide, zdr_112⟩ hg78 d_98_217 ow_98 rs2_10_125 kk_112 vn_112 rfl s112 rfl rfl rfl rfl (fun v85 M86 R87 L88 => ?_)))
          try dsimp only
          refine zG_il6 (p := 222) d_98_220 rfl ?_
          refine zG_cge (p1 := 243) (p2 := 225) d_98_222 (by decide) rfl ?_ ?_
          · exact hj48 M86 R87 L88 (.val (.int v50)) (.val (.int v51)) (.val (.int v55)) (.val (.int v56)) (u77)
          · refine zG_aln0 (p := 226) d_98_225 rfl (zG_dup (p := 227) d_98_226 rfl rfl (zG_grd fun hg89 => (zG_gi (p := 230) d_98_227 ow_98 gf2_10_38 hg89 rfl (zG_ic (p := 231) d_98_230 ci_1 rfl (zG_add (p := 232) d_98_231 rfl (zG_pi (p := 235) d_98_232 ow_98 gf2_10_38 (Or.inl rfl) (Or.inl rfl) fo_98_10_5 hg89 rfl (fun M90 => ?_)))))))
            refine zG_aln0 (p := 236) d_98_235 rfl (zG_ic (p := 237) d_98_236 ci_4 rfl (zG_iln2 (p := 238) d_98_237 rfl (zG_ic (p := 239) d_98_238 ci_0 rfl (zG_ic (p := 240) d_98_239 ci_1 rfl (zG_cV4v (p := 243) (c := 10) ⟨ow_99, by decide, zdr_99⟩ hg89 d_98_240 ow_98 rs2_10_106 kk_99 vn_99 rfl s99 rfl rfl rfl rfl (fun M91 R92 L93 => ?_))))))
            try dsimp only
            exact hj48 M91 R92 L93 (.val (.int v50)) (.val (.int v51)) (.val (.int v55)) (.val (.int v56)) (u77)

theorem s113_l12 {sc : ZS} {d : Nat} {t : Nat} {R : ZF} {L : ZY} {x1 : Int32} {k13 : ZI → Option (Int32 × ZH)} (hk13 : ∀ (M11 : ZI) (u12 : Slot), zG sc (d + 25) 113 43 [.val (.ref t), .val (.ref 0), .val (.int x1), u12] [] (M11, R, L) (k13 M11) gEm) : ∀ (n : Nat) (x9 : Int32) (M10 : ZI), zG sc (d + 25) 113 12 [.val (.ref t), .val (.ref 0), .val (.int x1), .val (.int x9)] [] (M10, R, L) (g113_l12 t R L x1 k13 n x9 M10) gEm := by
  intro n
  induction n with
  | zero => intros; exact zG_none
  | succ n ih =>
    intro x9 M10
    rw [g113_l12]
    refine zG_iln3 (p := 13) d_113_12 rfl (zG_bi (p := 15) d_113_13 cb_7 rfl ?_)
    refine zG_cge (p1 := 43) (p2 := 18) d_113_15 (by decide) rfl ?_ ?_
    · exact hk13 M10 (.val (.int x9))
    · refine zG_aln1 (p := 19) d_113_18 rfl (zG_iln2 (p := 20) d_113_19 rfl (zG_iln3 (p := 21) d_113_20 rfl (zG_grd fun hg14 => (zG_k2m (p := 24) hg14 kc_92 d_113_21 ow_113 rs2_10_128 kk_92 rfl (fun q hL => s92 hL) rfl rfl rfl rfl (fun v15 M16 => ?_)))))
      try dsimp only
      refine zG_aln0 (p := 25) d_113_24 rfl (zG_grd fun hg17 => (zG_grb (p := 28) d_113_25 ow_113 gf2_10_18 hg17 rfl (fun r18 => ?_)))
      refine zG_iln2 (p := 29) d_113_28 rfl (zG_grd fun hg19 => (zG_aa51 (p := 30) d_113_29 hg19 rfl (fun r20 => ?_)))
      refine zG_iln3 (p := 31) d_113_30 rfl (zG_grd fun hg21 => (zG_ia (p := 32) d_113_31 hg21 rfl ?_))
      refine zG_ceq (p1 := 37) (p2 := 35) d_113_32 (by decide) rfl ?_ ?_
      · refine zG_ii3 (p := 40) d_113_37 ci_1 rfl (zG_goto (p := 12) d_113_40 (by decide) ?_)
        exact ih (x9 + (1 : Int32)) M16
      · refine zG_ic (p := 36) d_113_35 ci_0 rfl ?_
        exact zG_retmb d_113_36 rt_113 rfl

theorem s113_l91 {sc : ZS} {d : Nat} {t : Nat} {R : ZF} {L : ZY} {x1 : Int32} {k39 : ZI → Option (Int32 × ZH)} (hk39 : ∀ (M37 : ZI) (u38 : Slot), zG sc (d + 25) 113 137 [.val (.ref t), .val (.ref 0), .val (.int x1), u38] [] (M37, R, L) (k39 M37) gEm) : ∀ (n : Nat) (x35 : Int32) (M36 : ZI), zG sc (d + 25) 113 91 [.val (.ref t), .val (.ref 0), .val (.int x1), .val (.int x35)] [] (M36, R, L) (g113_l91 t R L x1 k39 n x35 M36) gEm := by
  intro n
  induction n with
  | zero => intros; exact zG_none
  | succ n ih =>
    intro x35 M36
    rw [g113_l91]
    refine zG_iln3 (p := 92) d_113_91 rfl (zG_bi (p := 94) d_113_92 cb_25 rfl ?_)
    refine zG_cge (p1 := 137) (p2 := 97) d_113_94 (by decide) rfl ?_ ?_
    · exact hk39 M36 (.val (.int x35))
    · refine zG_aln1 (p := 98) d_113_97 rfl (zG_iln2 (p := 99) d_113_98 rfl (zG_iln3 (p := 100) d_113_99 rfl (zG_ic (p := 101) d_113_100 ci_0 rfl (zG_grd fun hg40 => (zG_k3m (p := 104) hg40 kc_94 d_113_101 ow_113 rs2_10_133 kk_94 rfl (fun q hL => s94 hL) rfl rfl rfl rfl (fun v41 M42 => ?_))))))
      try dsimp only
      refine zG_aln0 (p := 105) d_113_104 rfl (zG_iln2 (p := 106) d_113_105 rfl (zG_iln3 (p := 107) d_113_106 rfl (zG_grd fun hg43 => (zG_cV2i (p := 110) (c := 10) ⟨ow_110, by decide, zdr_110⟩ hg43 d_113_107 ow_113 rs2_10_117 kk_110 vn_110 rfl s110 rfl rfl rfl rfl (fun v44 => ?_)))))
      refine zG_cne (p1 := 129) (p2 := 113) d_113_110 (by decide) rfl ?_ ?_
      · refine zG_ic (p := 130) d_113_129 ci_0 rfl ?_
        exact zG_retmb d_113_130 rt_113 rfl
      · refine zG_aln1 (p := 114) d_113_113 rfl (zG_iln2 (p := 115) d_113_114 rfl (zG_iln3 (p := 116) d_113_115 rfl (zG_ic (p := 117) d_113_116 ci_1 rfl (zG_k3m (p := 120) hg40 kc_94 d_113_117 ow_113 rs2_10_133 kk_94 rfl (fun q hL => s94 hL) rfl rfl rfl rfl (fun v45 M46 => ?_)))))
        try dsimp only
        refine zG_aln0 (p := 121) d_113_120 rfl (zG_iln2 (p := 122) d_113_121 rfl (zG_iln3 (p := 123) d_113_122 rfl (zG_cV2i (p := 126) (c := 10) ⟨ow_111, by decide, zdr_111⟩ hg43 d_113_123 ow_113 rs2_10_119 kk_111 vn_111 rfl s111 rfl rfl rfl rfl (fun v47 => ?_))))
        refine zG_ceq (p1 := 131) (p2 := 129) d_113_126 (by decide) rfl ?_ ?_
        · refine zG_ii3 (p := 134) d_113_131 ci_4 rfl (zG_goto (p := 91) d_113_134 (by decide) ?_)
          exact ih (x35 + (4 : Int32)) M46
        · refine zG_ic (p := 130) d_113_129 ci_0 rfl ?_
          exact zG_retmb d_113_130 rt_113 rfl

theorem s113_l2 {sc : ZS} {d : Nat} {t : Nat} {R : ZF} {L : ZY} {k7 : ZI → Option (Int32 × ZH)} (hk7 : ∀ (M4 : ZI) (u5 : Slot) (u6 : Slot), zG sc (d + 25) 113 143 [.val (.ref t), .val (.ref 0), u5, u6] [] (M4, R, L) (k7 M4) gEm) : ∀ (n : Nat) (x1 : Int32) (M3 : ZI) (u2 : Slot), zG sc (d + 25) 113 2 [.val (.ref t), .val (.ref 0), .val (.int x1), u2] [] (M3, R, L) (g113_l2 t R L k7 n x1 M3) gEm := by
  intro n
  induction n with
  | zero => intros; exact zG_none
  | succ n ih =>
    intro x1 M3 u2
    rw [g113_l2]
    refine zG_iln2 (p := 3) d_113_2 rfl (zG_aln0 (p := 4) d_113_3 rfl (zG_grd fun hg8 => (zG_gi (p := 7) d_113_4 ow_113 gf2_10_44 hg8 rfl ?_)))
    refine zG_cge (p1 := 143) (p2 := 10) d_113_7 (by decide) rfl ?_ ?_
    · exact hk7 M3 (.val (.int x1)) (u2)
    · refine zG_ic (p := 11) d_113_10 ci_0 rfl (zG_isn3 (p := 12) d_113_11 rfl ?_)
      refine s113_l12 (fun M22 u23 => ?_) zfu (0 : Int32) M3
      try dsimp only
      refine zG_aln1 (p := 44) d_113_43 rfl (zG_iln2 (p := 45) d_113_44 rfl (zG_bi (p := 47) d_113_45 cb_7 rfl (zG_grd fun hg24 => (zG_k2m (p := 50) hg24 kc_92 d_113_47 ow_113 rs2_10_128 kk_92 rfl (fun q hL => s92 hL) rfl rfl rfl rfl (fun v25 M26 => ?_)))))
      try dsimp only
      refine zG_aln0 (p := 51) d_113_50 rfl (zG_iln2 (p := 52) d_113_51 rfl (zG_grd fun hg27 => (zG_cV1i (p := 55) (c := 10) ⟨ow_102, by decide, zdr_102⟩ hg27 d_113_52 ow_113 rs2_10_84 kk_102 vn_102 rfl s102 rfl rfl rfl rfl (fun v28 => ?_))))
      refine zG_cne (p1 := 85) (p2 := 58) d_113_55 (by decide) rfl ?_ ?_
      · refine zG_ic (p := 86) d_113_85 ci_0 rfl ?_
        exact zG_retmb d_113_86 rt_113 rfl
      · refine zG_aln1 (p := 59) d_113_58 rfl (zG_iln2 (p := 60) d_113_59 rfl (zG_bi (p := 62) d_113_60 cb_8 rfl (zG_k2m (p := 65) hg24 kc_92 d_113_62 ow_113 rs2_10_128 kk_92 rfl (fun q hL => s92 hL) rfl rfl rfl rfl (fun v29 M30 => ?_))))
        try dsimp only
        refine zG_aln0 (p := 66) d_113_65 rfl (zG_iln2 (p := 67) d_113_66 rfl (zG_cV1i (p := 70) (c := 10) ⟨ow_101, by decide, zdr_101⟩ hg27 d_113_67 ow_113 rs2_10_87 kk_101 vn_101 rfl s101 rfl rfl rfl rfl (fun v31 => ?_)))
        refine zG_cne (p1 := 85) (p2 := 73) d_113_70 (by decide) rfl ?_ ?_
        · refine zG_ic (p := 86) d_113_85 ci_0 rfl ?_
          exact zG_retmb d_113_86 rt_113 rfl
        · refine zG_aln1 (p := 74) d_113_73 rfl (zG_iln2 (p := 75) d_113_74 rfl (zG_bi (p := 77) d_113_75 cb_9 rfl (zG_k2m (p := 80) hg24 kc_92 d_113_77 ow_113 rs2_10_128 kk_92 rfl (fun q hL => s92 hL) rfl rfl rfl rfl (fun v32 M33 => ?_))))
          try dsimp only
          refine zG_bi (p := 82) d_113_80 cb_m2 rfl ?_
          refine zG_ceq (p1 := 87) (p2 := 85) d_113_82 (by decide) rfl ?_ ?_
          · refine zG_iln2 (p := 88) d_113_87 rfl (zG_ic (p := 89) d_113_88 ci_3 rfl (zG_rem (p := 90) d_113_89 (by decide) rfl (zG_jsn3 (p := 91) d_113_90 rfl (fun x34 => ?_))))
            refine s113_l91 (fun M48 u49 => ?_) zfu x34 M33
            try dsimp only
            refine zG_ii2 (p := 140) d_113_137 ci_1 rfl (zG_goto (p := 2) d_113_140 (by decide) ?_)
            exact ih (x1 + (1 : Int32)) M48 (u49)
          · refine zG_ic (p := 86) d_113_85 ci_0 rfl ?_
            exact zG_retmb d_113_86 rt_113 rfl

theorem s113_l156 {sc : ZS} {d : Nat} {t : Nat} {R : ZF} {L : ZY} {M50 : ZI} {x53 : Int32} {k63 : Unit → Option (Int32 × ZH)} (hk63 : ∀ (_ : Unit) (u62 : Slot), zG sc (d + 25) 113 187 [.val (.ref t), .val (.ref 0), .val (.int x53), u62] [] (M50, R, L) (k63 ()) gEm) : ∀ (n : Nat) (x61 : Int32), zG sc (d + 25) 113 156 [.val (.ref t), .val (.ref 0), .val (.int x53), .val (.int x61)] [] (M50, R, L) (g113_l156 t R L M50 x53 k63 n x61) gEm := by
  intro n
  induction n with
  | zero => intros; exact zG_none
  | succ n ih =>
    intro x61
    rw [g113_l156]
    refine zG_iln3 (p := 157) d_113_156 rfl (zG_bi (p := 159) d_113_157 cb_6 rfl ?_)
    refine zG_cge (p1 := 187) (p2 := 162) d_113_159 (by decide) rfl ?_ ?_
    · exact hk63 () (.val (.int x61))
    · refine zG_aln1 (p := 163) d_113_162 rfl (zG_iln2 (p := 164) d_113_163 rfl (zG_iln3 (p := 165) d_113_164 rfl (zG_grd fun hg64 => (zG_k2i (p := 168) hg64 kc_95 d_113_165 ow_113 rs2_10_137 kk_95 rfl (fun q hL => s95 hL) rfl rfl rfl rfl (fun v65 => ?_)))))
      refine zG_aln0 (p := 169) d_113_168 rfl (zG_grd fun hg66 => (zG_grb (p := 172) d_113_169 ow_113 gf2_10_22 hg66 rfl (fun r67 => ?_)))
      refine zG_iln2 (p := 173) d_113_172 rfl (zG_grd fun hg68 => (zG_aa51 (p := 174) d_113_173 hg68 rfl (fun r69 => ?_)))
      refine zG_iln3 (p := 175) d_113_174 rfl (zG_grd fun hg70 => (zG_ia (p := 176) d_113_175 hg70 rfl ?_))
      refine zG_ceq (p1 := 181) (p2 := 179) d_113_176 (by decide) rfl ?_ ?_
      · refine zG_ii3 (p := 184) d_113_181 ci_1 rfl (zG_goto (p := 156) d_113_184 (by decide) ?_)
        exact ih (x61 + (1 : Int32))
      · refine zG_ic (p := 180) d_113_179 ci_0 rfl ?_
        exact zG_retmb d_113_180 rt_113 rfl

theorem s113_l145 {sc : ZS} {d : Nat} {t : Nat} {R : ZF} {L : ZY} {M50 : ZI} {k57 : Unit → Option (Int32 × ZH)} (hk57 : ∀ (_ : Unit) (u55 : Slot) (u56 : Slot), zG sc (d + 25) 113 225 [.val (.ref t), .val (.ref 0), u55, u56] [] (M50, R, L) (k57 ()) gEm) : ∀ (n : Nat) (x53 : Int32) (u54 : Slot), zG sc (d + 25) 113 145 [.val (.ref t), .val (.ref 0), .val (.int x53), u54] [] (M50, R, L) (g113_l145 t R L M50 k57 n x53) gEm := by
  intro n
  induction n with
  | zero => intros; exact zG_none
  | succ n ih =>
    intro x53 u54
    rw [g113_l145]
    refine zG_iln2 (p := 146) d_113_145 rfl (zG_aln0 (p := 147) d_113_146 rfl (zG_grd fun hg58 => (zG_grb (p := 150) d_113_147 ow_113 gf2_10_22 hg58 rfl (fun r59 => ?_))))
    refine zG_grd fun hg60 => (zG_len51 (p := 151) d_113_150 hg60 rfl ?_)
    refine zG_cge (p1 := 225) (p2 := 154) d_113_151 (by decide) rfl ?_ ?_
    · exact hk57 () (.val (.int x53)) (u54)
    · refine zG_ic (p := 155) d_113_154 ci_0 rfl (zG_isn3 (p := 156) d_113_155 rfl ?_)
      refine s113_l156 (fun _ u71 => ?_) zfu (0 : Int32)
      try dsimp only
      refine zG_aln1 (p := 188) d_113_187 rfl (zG_iln2 (p := 189) d_113_188 rfl (zG_bi (p := 191) d_113_189 cb_6 rfl (zG_grd fun hg72 => (zG_k2i (p := 194) hg72 kc_95 d_113_191 ow_113 rs2_10_137 kk_95 rfl (fun q hL => s95 hL) rfl rfl rfl rfl (fun v73 => ?_)))))
      refine zG_aln0 (p := 195) d_113_194 rfl (zG_grd fun hg74 => (zG_gi (p := 198) d_113_195 ow_113 gf2_10_50 hg74 rfl (zG_iln2 (p := 199) d_113_198 rfl (zG_shr (p := 200) d_113_199 rfl (zG_ic (p := 201) d_113_200 ci_1 rfl (zG_and (p := 202) d_113_201 rfl ?_))))))
      refine zG_cne (p1 := 217) (p2 := 205) d_113_202 (by decide) rfl ?_ ?_
      · refine zG_ic (p := 218) d_113_217 ci_0 rfl ?_
        exact zG_retmb d_113_218 rt_113 rfl
      · refine zG_aln1 (p := 206) d_113_205 rfl (zG_iln2 (p := 207) d_113_206 rfl (zG_bi (p := 209) d_113_207 cb_7 rfl (zG_k2i (p := 212) hg72 kc_95 d_113_209 ow_113 rs2_10_137 kk_95 rfl (fun q hL => s95 hL) rfl rfl rfl rfl (fun v75 => ?_))))
        refine zG_bi (p := 214) d_113_212 cb_m2 rfl ?_
        refine zG_ceq (p1 := 219) (p2 := 217) d_113_214 (by decide) rfl ?_ ?_
        · refine zG_ii2 (p := 222) d_113_219 ci_1 rfl (zG_goto (p := 145) d_113_222 (by decide) ?_)
          exact ih (x53 + (1 : Int32)) (u71)
        · refine zG_ic (p := 218) d_113_217 ci_0 rfl ?_
          exact zG_retmb d_113_218 rt_113 rfl

theorem s113_l237 {sc : ZS} {d : Nat} {t : Nat} {R : ZF} {L : ZY} {M50 : ZI} {x78 : Int32} {k86 : Unit → Option (Int32 × ZH)} (hk86 : ∀ (_ : Unit) (u85 : Slot), zG sc (d + 25) 113 267 [.val (.ref t), .val (.ref 0), .val (.int x78), u85] [] (M50, R, L) (k86 ()) gEm) : ∀ (n : Nat) (x84 : Int32), zG sc (d + 25) 113 237 [.val (.ref t), .val (.ref 0), .val (.int x78), .val (.int x84)] [] (M50, R, L) (g113_l237 t R L M50 x78 k86 n x84) gEm := by
  intro n
  induction n with
  | zero => intros; exact zG_none
  | succ n ih =>
    intro x84
    rw [g113_l237]
    refine zG_iln3 (p := 238) d_113_237 rfl (zG_ic (p := 239) d_113_238 ci_4 rfl ?_)
    refine zG_cge (p1 := 267) (p2 := 242) d_113_239 (by decide) rfl ?_ ?_
    · exact hk86 () (.val (.int x84))
    · refine zG_aln1 (p := 243) d_113_242 rfl (zG_iln2 (p := 244) d_113_243 rfl (zG_iln3 (p := 245) d_113_244 rfl (zG_grd fun hg87 => (zG_k2i (p := 248) hg87 kc_96 d_113_245 ow_113 rs2_10_139 kk_96 rfl (fun q hL => s96 hL) rfl rfl rfl rfl (fun v88 => ?_)))))
      refine zG_aln0 (p := 249) d_113_248 rfl (zG_grd fun hg89 => (zG_grb (p := 252) d_113_249 ow_113 gf2_10_25 hg89 rfl (fun r90 => ?_)))
      refine zG_iln2 (p := 253) d_113_252 rfl (zG_grd fun hg91 => (zG_aa51 (p := 254) d_113_253 hg91 rfl (fun r92 => ?_)))
      refine zG_iln3 (p := 255) d_113_254 rfl (zG_grd fun hg93 => (zG_ia (p := 256) d_113_255 hg93 rfl ?_))
      refine zG_ceq (p1 := 261) (p2 := 259) d_113_256 (by decide) rfl ?_ ?_
      · refine zG_ii3 (p := 264) d_113_261 ci_1 rfl (zG_goto (p := 237) d_113_264 (by decide) ?_)
        exact ih (x84 + (1 : Int32))
      · refine zG_ic (p := 260) d_113_259 ci_0 rfl ?_
        exact zG_retmb d_113_260 rt_113 rfl

theorem s113_l227 {sc : ZS} {d : Nat} {t : Nat} {R : ZF} {L : ZY} {M50 : ZI} {k82 : Unit → Option (Int32 × ZH)} (hk82 : ∀ (_ : Unit) (u80 : Slot) (u81 : Slot), zG sc (d + 25) 113 273 [.val (.ref t), .val (.ref 0), u80, u81] [] (M50, R, L) (k82 ()) gEm) : ∀ (n : Nat) (x78 : Int32) (u79 : Slot), zG sc (d + 25) 113 227 [.val (.ref t), .val (.ref 0), .val (.int x78), u79] [] (M50, R, L) (g113_l227 t R L M50 k82 n x78) gEm := by
  intro n
  induction n with
  | zero => intros; exact zG_none
  | succ n ih =>
    intro x78 u79
    rw [g113_l227]
    refine zG_iln2 (p := 228) d_113_227 rfl (zG_aln0 (p := 229) d_113_228 rfl (zG_grd fun hg83 => (zG_gi (p := 232) d_113_229 ow_113 gf2_10_47 hg83 rfl ?_)))
    refine zG_cge (p1 := 273) (p2 := 235) d_113_232 (by decide) rfl ?_ ?_
    · exact hk82 () (.val (.int x78)) (u79)
    · refine zG_ic (p := 236) d_113_235 ci_0 rfl (zG_isn3 (p := 237) d_113_236 rfl ?_)
      refine s113_l237 (fun _ u94 => ?_) zfu (0 : Int32)
      try dsimp only
      refine zG_ii2 (p := 270) d_113_267 ci_1 rfl (zG_goto (p := 227) d_113_270 (by decide) ?_)
      exact ih (x78 + (1 : Int32)) (u94)

theorem s113_l346 {sc : ZS} {d : Nat} {t : Nat} {r99 : Nat} {R101 : ZF} {L102 : ZY} {k126 : ZI → Option (Int32 × ZH)} (hk126 : ∀ (M124 : ZI) (u125 : Slot), zG sc (d + 25) 113 371 [.val (.ref t), .val (.ref 0), .val (.ref r99), u125] [] (M124, R101, L102) (k126 M124) gEm) : ∀ (n : Nat) (x122 : Int32) (M123 : ZI), zG sc (d + 25) 113 346 [.val (.ref t), .val (.ref 0), .val (.ref r99), .val (.int x122)] [] (M123, R101, L102) (g113_l346 r99 R101 L102 k126 n x122 M123) gEm := by
  intro n
  induction n with
  | zero => intros; exact zG_none
  | succ n ih =>
    intro x122 M123
    rw [g113_l346]
    refine zG_iln3 (p := 347) d_113_346 rfl (zG_bi (p := 349) d_113_347 cb_9 rfl ?_)
    refine zG_cge (p1 := 371) (p2 := 352) d_113_349 (by decide) rfl ?_ ?_
    · exact hk126 M123 (.val (.int x122))
    · refine zG_aln1 (p := 353) d_113_352 rfl (zG_iln3 (p := 354) d_113_353 rfl (zG_grd fun hg127 => (zG_k1m (p := 357) hg127 kc_143 d_113_354 ow_113 rs2_10_142 kk_143 rfl (fun q hL => s143 hL) rfl rfl rfl rfl (fun v128 M129 => ?_))))
      try dsimp only
      refine zG_aln2 (p := 358) d_113_357 rfl (zG_iln3 (p := 359) d_113_358 rfl (zG_grd fun hg130 => (zG_ia (p := 360) d_113_359 hg130 rfl ?_)))
      refine zG_ceq (p1 := 365) (p2 := 363) d_113_360 (by decide) rfl ?_ ?_
      · refine zG_ii3 (p := 368) d_113_365 ci_1 rfl (zG_goto (p := 346) d_113_368 (by decide) ?_)
        exact ih (x122 + (1 : Int32)) M129
      · refine zG_ic (p := 364) d_113_363 ci_0 rfl ?_
        exact zG_retmb d_113_364 rt_113 rfl

theorem s113 {sc : ZS} {d : Nat} {t : Nat} {M : ZI} {R : ZF} {L : ZY} : zG sc (d + 25) 113 0 [.val (.ref t), .val (.ref 0), .unset, .unset] [] (M, R, L) (g113_isSame t M R L) gEm := by
  unfold g113_isSame
  refine zG_ic (p := 1) d_113_0 ci_0 rfl (zG_isn2 (p := 2) d_113_1 rfl ?_)
  refine s113_l2 (fun M50 u51 u52 => ?_) zfu (0 : Int32) M (.unset)
  try dsimp only
  refine zG_ic (p := 144) d_113_143 ci_0 rfl (zG_isn2 (p := 145) d_113_144 rfl ?_)
  refine s113_l145 (fun _ u76 u77 => ?_) zfu (0 : Int32) (u52)
  try dsimp only
  refine zG_ic (p := 226) d_113_225 ci_0 rfl (zG_isn2 (p := 227) d_113_226 rfl ?_)
  refine s113_l227 (fun _ u95 u96 => ?_) zfu (0 : Int32) (u77)
  try dsimp only
  refine zG_bi (p := 275) d_113_273 cb_9 rfl (zG_grd fun hg97 => (zG_grd fun hg98 => (zG_ni (p := 277) d_113_275 hg97 hg98 rfl (fun r99 M100 R101 L102 => ?_))))
  refine zG_dup (p := 278) d_113_277 rfl rfl (zG_ic (p := 279) d_113_278 ci_0 rfl (zG_aln0 (p := 280) d_113_279 rfl (zG_grd fun hg103 => (zG_gi (p := 283) d_113_280 ow_113 gf2_10_44 hg103 rfl (zG_grd fun hg104 => (zG_ist (p := 284) d_113_283 hg104 rfl (fun M105 => ?_)))))))
  refine zG_dup (p := 285) d_113_284 rfl rfl (zG_ic (p := 286) d_113_285 ci_1 rfl (zG_aln0 (p := 287) d_113_286 rfl (zG_gi (p := 290) d_113_287 ow_113 gf2_10_32 hg103 rfl (zG_grd fun hg106 => (zG_ist (p := 291) d_113_290 hg106 rfl (fun M107 => ?_))))))
  refine zG_dup (p := 292) d_113_291 rfl rfl (zG_ic (p := 293) d_113_292 ci_2 rfl (zG_aln0 (p := 294) d_113_293 rfl (zG_gi (p := 297) d_113_294 ow_113 gf2_10_35 hg103 rfl (zG_grd fun hg108 => (zG_ist (p := 298) d_113_297 hg108 rfl (fun M109 => ?_))))))
  refine zG_dup (p := 299) d_113_298 rfl rfl (zG_ic (p := 300) d_113_299 ci_3 rfl (zG_aln0 (p := 301) d_113_300 rfl (zG_gi (p := 304) d_113_301 ow_113 gf2_10_7 hg103 rfl (zG_grd fun hg110 => (zG_ist (p := 305) d_113_304 hg110 rfl (fun M111 => ?_))))))
  refine zG_dup (p := 306) d_113_305 rfl rfl (zG_ic (p := 307) d_113_306 ci_4 rfl (zG_aln0 (p := 308) d_113_307 rfl (zG_gi (p := 311) d_113_308 ow_113 gf2_10_13 hg103 rfl (zG_grd fun hg112 => (zG_ist (p := 312) d_113_311 hg112 rfl (fun M113 => ?_))))))
  refine zG_dup (p := 313) d_113_312 rfl rfl (zG_ic (p := 314) d_113_313 ci_5 rfl (zG_aln0 (p := 315) d_113_314 rfl (zG_gi (p := 318) d_113_315 ow_113 gf2_10_38 hg103 rfl (zG_grd fun hg114 => (zG_ist (p := 319) d_113_318 hg114 rfl (fun M115 => ?_))))))
  refine zG_dup (p := 320) d_113_319 rfl rfl (zG_bi (p := 322) d_113_320 cb_6 rfl (zG_aln0 (p := 323) d_113_322 rfl (zG_gi (p := 326) d_113_323 ow_113 gf2_10_41 hg103 rfl (zG_grd fun hg116 => (zG_ist (p := 327) d_113_326 hg116 rfl (fun M117 => ?_))))))
  refine zG_dup (p := 328) d_113_327 rfl rfl (zG_bi (p := 330) d_113_328 cb_7 rfl (zG_aln0 (p := 331) d_113_330 rfl (zG_gi (p := 334) d_113_331 ow_113 gf2_10_47 hg103 rfl (zG_grd fun hg118 => (zG_ist (p := 335) d_113_334 hg118 rfl (fun M119 => ?_))))))
  refine zG_dup (p := 336) d_113_335 rfl rfl (zG_bi (p := 338) d_113_336 cb_8 rfl (zG_aln0 (p := 339) d_113_338 rfl (zG_gi (p := 342) d_113_339 ow_113 gf2_10_29 hg103 rfl (zG_grd fun hg120 => (zG_ist (p := 343) d_113_342 hg120 rfl (fun M121 => ?_))))))
  refine zG_asn2 (p := 344) d_113_343 rfl (zG_ic (p := 345) d_113_344 ci_0 rfl (zG_isn3 (p := 346) d_113_345 rfl ?_))
  refine s113_l346 (fun M131 u132 => ?_) zfu (0 : Int32) M121
  try dsimp only
  refine zG_aln1 (p := 372) d_113_371 rfl (zG_aln0 (p := 373) d_113_372 rfl (zG_grd fun hg133 => (zG_gi (p := 376) d_113_373 ow_113 gf2_10_44 hg133 rfl (zG_ic (p := 377) d_113_376 ci_0 rfl (zG_grd fun hg134 => (zG_k2m (p := 380) hg134 kc_92 d_113_377 ow_113 rs2_10_128 kk_92 rfl (fun q hL => s92 hL) rfl rfl rfl rfl (fun v135 M136 => ?_)))))))
  try dsimp only
  refine zG_bi (p := 382) d_113_380 cb_m2 rfl ?_
  refine zG_cne (p1 := 459) (p2 := 385) d_113_382 (by decide) rfl ?_ ?_
  · refine zG_ic (p := 460) d_113_459 ci_0 rfl ?_
    exact zG_retmb d_113_460 rt_113 rfl
  · refine zG_aln1 (p := 386) d_113_385 rfl (zG_aln0 (p := 387) d_113_386 rfl (zG_gi (p := 390) d_113_387 ow_113 gf2_10_44 hg133 rfl (zG_ic (p := 391) d_113_390 ci_0 rfl (zG_ic (p := 392) d_113_391 ci_1 rfl (zG_k3m (p := 395) hg134 kc_94 d_113_392 ow_113 rs2_10_133 kk_94 rfl (fun q hL => s94 hL) rfl rfl rfl rfl (fun v137 M138 => ?_))))))
    try dsimp only
    refine zG_ic (p := 396) d_113_395 ci_m1 rfl ?_
    refine zG_cne (p1 := 459) (p2 := 399) d_113_396 (by decide) rfl ?_ ?_
    · refine zG_ic (p := 460) d_113_459 ci_0 rfl ?_
      exact zG_retmb d_113_460 rt_113 rfl
    · refine zG_aln1 (p := 400) d_113_399 rfl (zG_aln0 (p := 401) d_113_400 rfl (zG_grb (p := 404) d_113_401 ow_113 gf2_10_22 hg133 rfl (fun r139 => ?_)))
      refine zG_grd fun hg140 => (zG_len51 (p := 405) d_113_404 hg140 rfl (zG_ic (p := 406) d_113_405 ci_0 rfl (zG_k2i (p := 409) hg134 kc_95 d_113_406 ow_113 rs2_10_137 kk_95 rfl (fun q hL => s95 hL) rfl rfl rfl rfl (fun v141 => ?_))))
      refine zG_bi (p := 411) d_113_409 cb_m2 rfl ?_
      refine zG_cne (p1 := 459) (p2 := 414) d_113_411 (by decide) rfl ?_ ?_
      · refine zG_ic (p := 460) d_113_459 ci_0 rfl ?_
        exact zG_retmb d_113_460 rt_113 rfl
      · refine zG_aln1 (p := 415) d_113_414 rfl (zG_aln0 (p := 416) d_113_415 rfl (zG_gi (p := 419) d_113_416 ow_113 gf2_10_47 hg133 rfl (zG_ic (p := 420) d_113_419 ci_0 rfl (zG_k2i (p := 423) hg134 kc_96 d_113_420 ow_113 rs2_10_139 kk_96 rfl (fun q hL => s96 hL) rfl rfl rfl rfl (fun v142 => ?_)))))
        refine zG_bi (p := 425) d_113_423 cb_m2 rfl ?_
        refine zG_cne (p1 := 459) (p2 := 428) d_113_425 (by decide) rfl ?_ ?_
        · refine zG_ic (p := 460) d_113_459 ci_0 rfl ?_
          exact zG_retmb d_113_460 rt_113 rfl
        · refine zG_aln1 (p := 429) d_113_428 rfl (zG_bi (p := 431) d_113_429 cb_11 rfl (zG_k1m (p := 434) hg134 kc_143 d_113_431 ow_113 rs2_10_142 kk_143 rfl (fun q hL => s143 hL) rfl rfl rfl rfl (fun v143 M144 => ?_)))
          try dsimp only
          refine zG_aln0 (p := 435) d_113_434 rfl (zG_grb (p := 438) d_113_435 ow_113 gf2_10_22 hg133 rfl (fun r145 => ?_))
          refine zG_grd fun hg146 => (zG_len51 (p := 439) d_113_438 hg146 rfl ?_)
          refine zG_cne (p1 := 459) (p2 := 442) d_113_439 (by decide) rfl ?_ ?_
          · refine zG_ic (p := 460) d_113_459 ci_0 rfl ?_
            exact zG_retmb d_113_460 rt_113 rfl
          · refine zG_aln1 (p := 443) d_113_442 rfl (zG_bi (p := 445) d_113_443 cb_15 rfl (zG_k1m (p := 448) hg134 kc_143 d_113_445 ow_113 rs2_10_142 kk_143 rfl (fun q hL => s143 hL) rfl rfl rfl rfl (fun v147 M148 => ?_)))
            try dsimp only
            refine zG_aln0 (p := 449) d_113_448 rfl (zG_cV0i (p := 452) (c := 10) ⟨ow_100, by decide, zdr_100⟩ hg133 d_113_449 ow_113 rs2_10_110 kk_100 vn_100 rfl s100 rfl rfl rfl rfl (fun v149 => ?_))
            refine zG_cne (p1 := 459) (p2 := 455) d_113_452 (by decide) rfl ?_ ?_
            · refine zG_ic (p := 460) d_113_459 ci_0 rfl ?_
              exact zG_retmb d_113_460 rt_113 rfl
            · refine zG_ic (p := 456) d_113_455 ci_1 rfl (zG_goto (p := 460) d_113_456 (by decide) ?_)
              exact zG_retmb d_113_460 rt_113 rfl

theorem s114 {sc : ZS} {d : Nat} {a1 : Int32} {M : ZI} {R : ZF} {L : ZY} : zG sc d 114 0 [.val (.ref 1000000), .val (.int a1)] [] (M, R, L) (g114_cell sc a1) (gEi (M, R, L)) := by
  unfold g114_cell
  refine zG_iln1 (p := 1) d_114_0 rfl (zG_aln0 (p := 2) d_114_1 rfl (zG_sl (p := 3) d_114_2 rfl ?_))
  refine zG_cge (p1 := 12) (p2 := 6) d_114_3 (by decide) rfl ?_ ?_
  · refine zG_si (p := 15) d_114_12 cs_593 rfl (zG_iln1 (p := 16) d_114_15 rfl (zG_mul (p := 17) d_114_16 rfl (zG_si (p := 20) d_114_17 cs_587 rfl (zG_add (p := 21) d_114_20 rfl ?_))))
    exact zG_reti d_114_21 rt_114
  · refine zG_aln0 (p := 7) d_114_6 rfl (zG_iln1 (p := 8) d_114_7 rfl (zG_grd fun hg1 => (zG_sa (p := 9) d_114_8 hg1 rfl (zG_goto (p := 21) d_114_9 (by decide) ?_))))
    exact zG_reti d_114_21 rt_114

