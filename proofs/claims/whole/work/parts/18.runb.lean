-- ===== RUNS of the reference keep its functions =====
theorem s147 {q : ZQ} {d : Nat} (hL : zLay q) {M : ZI} : zX q d 147 0 [.val (.ref 148)] [] M (f147_forgets M) zEv := by
  unfold f147_forgets
  refine zX_aln0 (p := 1) d_147_0 rfl (zX_ic (p := 2) d_147_1 ci_0 rfl (zX_pi (p := 5) d_147_2 ow_147 gf_10_57 zo_148 rfl (fun M1 => ?_)))
  exact zX_retv d_147_5 rt_147

theorem s146 {q : ZQ} {d : Nat} (hL : zLay q) {a1 : Int32} {M : ZI} : zX q (d + 1) 146 0 [.val (.ref 148), .val (.int a1), .unset] [] M (f146_state a1 M) zEm := by
  unfold f146_state
  refine zX_aln0 (p := 1) d_146_0 rfl (zX_gr (p := 4) (b := 149) d_146_1 ow_146 gf_10_7 zo_148 (zr_10_0 hL zo_148) rfl (zX_ic (p := 5) d_146_4 ci_4 rfl (zX_iac (p := 6) d_146_5 za_149 rfl zin_4_2064 zi_4 (zX_jsn2 (p := 7) d_146_6 rfl (fun x1 => ?_)))))
  refine zX_aln0 (p := 8) d_146_7 rfl (zX_gr (p := 11) (b := 149) d_146_8 ow_146 gf_10_7 zo_148 (zr_10_0 hL zo_148) rfl (zX_ic (p := 12) d_146_11 ci_4 rfl (zX_iln1 (p := 13) d_146_12 rfl (zX_itc (p := 14) d_146_13 za_149 rfl zin_4_2064 zi_4 (fun M2 => ?_)))))
  refine zX_aln0 (p := 15) d_146_14 rfl (zX_cV0v (p := 18) ⟨ow_147, by decide⟩ zo_148 d_146_15 ow_146 rs_10_60 kk_147 rfl (s147 hL) rfl rfl rfl rfl (fun M3 => ?_))
  refine zX_iln2 (p := 19) d_146_18 rfl ?_
  exact zX_retm d_146_19 rt_146

theorem s149 {q : ZQ} {d : Nat} (hL : zLay q) {a0 : Int32} {a1 : Int32} {a2 : Int32} {M : ZI} : zX q d 149 0 [.val (.int a0), .val (.int a1), .val (.int a2)] [] M (f149_isIn a0 a1 a2) (zEi M) := by
  unfold f149_isIn
  refine zX_iln0 (p := 1) d_149_0 rfl (zX_iln1 (p := 2) d_149_1 rfl ?_)
  refine zX_clt (p1 := 14) (p2 := 5) d_149_2 (by decide) rfl ?_ ?_
  · refine zX_ic (p := 15) d_149_14 ci_0 rfl ?_
    exact zX_retib d_149_15 rt_149 (Or.inl rfl)
  · refine zX_iln0 (p := 6) d_149_5 rfl (zX_iln2 (p := 7) d_149_6 rfl ?_)
    refine zX_cgt (p1 := 14) (p2 := 10) d_149_7 (by decide) rfl ?_ ?_
    · refine zX_ic (p := 15) d_149_14 ci_0 rfl ?_
      exact zX_retib d_149_15 rt_149 (Or.inl rfl)
    · refine zX_ic (p := 11) d_149_10 ci_1 rfl (zX_goto (p := 15) d_149_11 (by decide) ?_)
      exact zX_retib d_149_15 rt_149 (Or.inr rfl)

theorem s148 {q : ZQ} {d : Nat} (hL : zLay q) {a1 : Int32} {a2 : Int32} {M : ZI} : zX q (d + 1) 148 0 [.val (.ref 148), .val (.int a1), .val (.int a2), .unset] [] M (f148_person a1 a2 M) zEm := by
  unfold f148_person
  refine zX_iln1 (p := 1) d_148_0 rfl (zX_ic (p := 2) d_148_1 ci_0 rfl (zX_bi (p := 4) d_148_2 cb_99 rfl (zX_cS3i (p := 7) d_148_4 ow_148 rs_10_53 kk_149 rfl (s149 hL) rfl rfl rfl rfl (fun v1 => ?_))))
  refine zX_zeq (p1 := 32) (p2 := 10) d_148_7 (by decide) rfl ?_ ?_
  · refine zX_ic (p := 33) d_148_32 ci_m1 rfl ?_
    exact zX_retm d_148_33 rt_148
  · refine zX_iln2 (p := 11) d_148_10 rfl (zX_ic (p := 12) d_148_11 ci_0 rfl (zX_bi (p := 14) d_148_12 cb_24 rfl (zX_cS3i (p := 17) d_148_14 ow_148 rs_10_53 kk_149 rfl (s149 hL) rfl rfl rfl rfl (fun v2 => ?_))))
    refine zX_zeq (p1 := 32) (p2 := 20) d_148_17 (by decide) rfl ?_ ?_
    · refine zX_ic (p := 33) d_148_32 ci_m1 rfl ?_
      exact zX_retm d_148_33 rt_148
    · refine zX_aln0 (p := 21) d_148_20 rfl (zX_gr (p := 24) (b := 149) d_148_21 ow_148 gf_10_7 zo_148 (zr_10_0 hL zo_148) rfl (zX_bi (p := 26) d_148_24 cb_48 rfl (zX_iac (p := 27) d_148_26 za_149 rfl zin_48_2064 zi_48 (zX_bi (p := 29) d_148_27 cb_10 rfl ?_))))
      refine zX_cne (p1 := 34) (p2 := 32) d_148_29 (by decide) rfl ?_ ?_
      · refine zX_aln0 (p := 35) d_148_34 rfl (zX_gr (p := 38) (b := 149) d_148_35 ow_148 gf_10_7 zo_148 (zr_10_0 hL zo_148) rfl (zX_bi (p := 40) d_148_38 cb_48 rfl (zX_iac (p := 41) d_148_40 za_149 rfl zin_48_2064 zi_48 (zX_jsn3 (p := 42) d_148_41 rfl (fun x3 => ?_)))))
        refine zX_aln0 (p := 43) d_148_42 rfl (zX_gr (p := 46) (b := 149) d_148_43 ow_148 gf_10_7 zo_148 (zr_10_0 hL zo_148) rfl (zX_bi (p := 48) d_148_46 cb_17 rfl (zX_iln3 (p := 49) d_148_48 rfl (zX_add (p := 50) d_148_49 rfl (zX_iln1 (p := 51) d_148_50 rfl (zX_itg (p := 52) d_148_51 za_149 rfl (fun M4 => ?_)))))))
        refine zX_aln0 (p := 53) d_148_52 rfl (zX_gr (p := 56) (b := 149) d_148_53 ow_148 gf_10_7 zo_148 (zr_10_0 hL zo_148) rfl (zX_bi (p := 58) d_148_56 cb_60 rfl (zX_iln3 (p := 59) d_148_58 rfl (zX_add (p := 60) d_148_59 rfl (zX_iln2 (p := 61) d_148_60 rfl (zX_itg (p := 62) d_148_61 za_149 rfl (fun M5 => ?_)))))))
        refine zX_aln0 (p := 63) d_148_62 rfl (zX_gr (p := 66) (b := 149) d_148_63 ow_148 gf_10_7 zo_148 (zr_10_0 hL zo_148) rfl (zX_bi (p := 68) d_148_66 cb_70 rfl (zX_iln3 (p := 69) d_148_68 rfl (zX_add (p := 70) d_148_69 rfl (zX_si (p := 73) d_148_70 cs_999 rfl (zX_itg (p := 74) d_148_73 za_149 rfl (fun M6 => ?_)))))))
        refine zX_aln0 (p := 75) d_148_74 rfl (zX_gr (p := 78) (b := 149) d_148_75 ow_148 gf_10_7 zo_148 (zr_10_0 hL zo_148) rfl (zX_bi (p := 80) d_148_78 cb_27 rfl (zX_iln3 (p := 81) d_148_80 rfl (zX_add (p := 82) d_148_81 rfl (zX_ic (p := 83) d_148_82 ci_0 rfl (zX_itg (p := 84) d_148_83 za_149 rfl (fun M7 => ?_)))))))
        refine zX_aln0 (p := 85) d_148_84 rfl (zX_gr (p := 88) (b := 149) d_148_85 ow_148 gf_10_7 zo_148 (zr_10_0 hL zo_148) rfl (zX_bi (p := 90) d_148_88 cb_37 rfl (zX_iln3 (p := 91) d_148_90 rfl (zX_add (p := 92) d_148_91 rfl (zX_ic (p := 93) d_148_92 ci_0 rfl (zX_itg (p := 94) d_148_93 za_149 rfl (fun M8 => ?_)))))))
        refine zX_aln0 (p := 95) d_148_94 rfl (zX_gr (p := 98) (b := 149) d_148_95 ow_148 gf_10_7 zo_148 (zr_10_0 hL zo_148) rfl (zX_bi (p := 100) d_148_98 cb_7 rfl (zX_iln3 (p := 101) d_148_100 rfl (zX_add (p := 102) d_148_101 rfl (zX_ic (p := 103) d_148_102 ci_0 rfl (zX_itg (p := 104) d_148_103 za_149 rfl (fun M9 => ?_)))))))
        refine zX_aln0 (p := 105) d_148_104 rfl (zX_gr (p := 108) (b := 149) d_148_105 ow_148 gf_10_7 zo_148 (zr_10_0 hL zo_148) rfl (zX_bi (p := 110) d_148_108 cb_80 rfl (zX_iln3 (p := 111) d_148_110 rfl (zX_add (p := 112) d_148_111 rfl (zX_ic (p := 113) d_148_112 ci_m1 rfl (zX_itg (p := 114) d_148_113 za_149 rfl (fun M10 => ?_)))))))
        refine zX_aln0 (p := 115) d_148_114 rfl (zX_gr (p := 118) (b := 149) d_148_115 ow_148 gf_10_7 zo_148 (zr_10_0 hL zo_148) rfl (zX_bi (p := 120) d_148_118 cb_48 rfl (zX_dup2 (p := 121) d_148_120 rfl rfl rfl (zX_iac (p := 122) d_148_121 za_149 rfl zin_48_2064 zi_48 (zX_ic (p := 123) d_148_122 ci_1 rfl (zX_add (p := 124) d_148_123 rfl (zX_itc (p := 125) d_148_124 za_149 rfl zin_48_2064 zi_48 (fun M11 => ?_))))))))
        refine zX_aln0 (p := 126) d_148_125 rfl (zX_cV0v (p := 129) ⟨ow_147, by decide⟩ zo_148 d_148_126 ow_148 rs_10_60 kk_147 rfl (s147 hL) rfl rfl rfl rfl (fun M12 => ?_))
        refine zX_iln3 (p := 130) d_148_129 rfl ?_
        exact zX_retm d_148_130 rt_148
      · refine zX_ic (p := 33) d_148_32 ci_m1 rfl ?_
        exact zX_retm d_148_33 rt_148

theorem s152 {q : ZQ} {d : Nat} (hL : zLay q) {a1 : Int32} {M : ZI} : zX q (d + 1) 152 0 [.val (.ref 148), .val (.int a1)] [] M (f152_isPerson a1 M) (zEi M) := by
  unfold f152_isPerson
  refine zX_iln1 (p := 1) d_152_0 rfl (zX_ic (p := 2) d_152_1 ci_0 rfl (zX_aln0 (p := 3) d_152_2 rfl (zX_gr (p := 6) (b := 149) d_152_3 ow_152 gf_10_7 zo_148 (zr_10_0 hL zo_148) rfl (zX_bi (p := 8) d_152_6 cb_48 rfl (zX_iac (p := 9) d_152_8 za_149 rfl zin_48_2064 zi_48 (zX_ic (p := 10) d_152_9 ci_1 rfl (zX_sub (p := 11) d_152_10 rfl ?_)))))))
  refine zX_cS3i (p := 14) d_152_11 ow_152 rs_10_53 kk_149 rfl (s149 hL) rfl rfl rfl rfl (fun v1 => ?_)
  exact zX_retig d_152_14 rt_152

theorem s151 {q : ZQ} {d : Nat} (hL : zLay q) {a1 : Int32} {a2 : Int32} {a3 : Int32} {M : ZI} : zX q (d + 2) 151 0 [.val (.ref 148), .val (.int a1), .val (.int a2), .val (.int a3)] [] M (f151_canSet a1 a2 a3 M) (zEi M) := by
  unfold f151_canSet
  refine zX_iln1 (p := 1) d_151_0 rfl ?_
  refine zX_ite (fun hs1_0 => ?_) (fun hs1_0 => ?_)
  · refine zX_tsh (p := 40) (n := 0) d_151_1 hs1_0 (by decide) (by decide) (by decide) rfl (by decide) ?_
    refine zX_iln3 (p := 41) d_151_40 rfl (zX_ic (p := 42) d_151_41 ci_0 rfl (zX_bi (p := 44) d_151_42 cb_24 rfl (zX_cS3i (p := 47) d_151_44 ow_151 rs_10_53 kk_149 rfl (s149 hL) rfl rfl rfl rfl (fun v1 => ?_))))
    exact zX_retig d_151_47 rt_151
  refine zX_ite (fun hs1_1 => ?_) (fun hs1_1 => ?_)
  · refine zX_tsh (p := 40) (n := 1) d_151_1 hs1_1 (by decide) (by decide) (by decide) rfl (by decide) ?_
    refine zX_iln3 (p := 41) d_151_40 rfl (zX_ic (p := 42) d_151_41 ci_0 rfl (zX_bi (p := 44) d_151_42 cb_24 rfl (zX_cS3i (p := 47) d_151_44 ow_151 rs_10_53 kk_149 rfl (s149 hL) rfl rfl rfl rfl (fun v2 => ?_))))
    exact zX_retig d_151_47 rt_151
  refine zX_ite (fun hs1_2 => ?_) (fun hs1_2 => ?_)
  · refine zX_tsh (p := 48) (n := 2) d_151_1 hs1_2 (by decide) (by decide) (by decide) rfl (by decide) ?_
    refine zX_iln3 (p := 49) d_151_48 rfl (zX_ic (p := 50) d_151_49 ci_1 rfl (zX_bi (p := 52) d_151_50 cb_24 rfl (zX_cS3i (p := 55) d_151_52 ow_151 rs_10_53 kk_149 rfl (s149 hL) rfl rfl rfl rfl (fun v3 => ?_))))
    exact zX_retig d_151_55 rt_151
  refine zX_ite (fun hs1_3 => ?_) (fun hs1_3 => ?_)
  · refine zX_tsh (p := 56) (n := 3) d_151_1 hs1_3 (by decide) (by decide) (by decide) rfl (by decide) ?_
    refine zX_aln0 (p := 57) d_151_56 rfl (zX_iln2 (p := 58) d_151_57 rfl (zX_cV1i (p := 61) ⟨ow_152, by decide⟩ zo_148 d_151_58 ow_151 rs_10_65 kk_152 rfl (s152 hL) rfl rfl rfl rfl (fun v4 => ?_)))
    refine zX_zeq (p1 := 78) (p2 := 64) d_151_61 (by decide) rfl ?_ ?_
    · refine zX_ic (p := 79) d_151_78 ci_0 rfl ?_
      exact zX_retib d_151_79 rt_151 (Or.inl rfl)
    · refine zX_iln3 (p := 65) d_151_64 rfl (zX_ic (p := 66) d_151_65 ci_0 rfl (zX_bi (p := 68) d_151_66 cb_24 rfl (zX_cS3i (p := 71) d_151_68 ow_151 rs_10_53 kk_149 rfl (s149 hL) rfl rfl rfl rfl (fun v5 => ?_))))
      refine zX_zeq (p1 := 78) (p2 := 74) d_151_71 (by decide) rfl ?_ ?_
      · refine zX_ic (p := 79) d_151_78 ci_0 rfl ?_
        exact zX_retib d_151_79 rt_151 (Or.inl rfl)
      · refine zX_ic (p := 75) d_151_74 ci_1 rfl (zX_goto (p := 79) d_151_75 (by decide) ?_)
        exact zX_retib d_151_79 rt_151 (Or.inr rfl)
  refine zX_ite (fun hs1_4 => ?_) (fun hs1_4 => ?_)
  · refine zX_tsh (p := 80) (n := 4) d_151_1 hs1_4 (by decide) (by decide) (by decide) rfl (by decide) ?_
    refine zX_aln0 (p := 81) d_151_80 rfl (zX_iln2 (p := 82) d_151_81 rfl (zX_cV1i (p := 85) ⟨ow_152, by decide⟩ zo_148 d_151_82 ow_151 rs_10_65 kk_152 rfl (s152 hL) rfl rfl rfl rfl (fun v6 => ?_)))
    refine zX_zeq (p1 := 103) (p2 := 88) d_151_85 (by decide) rfl ?_ ?_
    · refine zX_ic (p := 104) d_151_103 ci_0 rfl ?_
      exact zX_retib d_151_104 rt_151 (Or.inl rfl)
    · refine zX_iln3 (p := 89) d_151_88 rfl (zX_ic (p := 90) d_151_89 ci_0 rfl (zX_si (p := 93) d_151_90 cs_999 rfl (zX_cS3i (p := 96) d_151_93 ow_151 rs_10_53 kk_149 rfl (s149 hL) rfl rfl rfl rfl (fun v7 => ?_))))
      refine zX_zeq (p1 := 103) (p2 := 99) d_151_96 (by decide) rfl ?_ ?_
      · refine zX_ic (p := 104) d_151_103 ci_0 rfl ?_
        exact zX_retib d_151_104 rt_151 (Or.inl rfl)
      · refine zX_ic (p := 100) d_151_99 ci_1 rfl (zX_goto (p := 104) d_151_100 (by decide) ?_)
        exact zX_retib d_151_104 rt_151 (Or.inr rfl)
  refine zX_ite (fun hs1_5 => ?_) (fun hs1_5 => ?_)
  · refine zX_tsh (p := 105) (n := 5) d_151_1 hs1_5 (by decide) (by decide) (by decide) rfl (by decide) ?_
    refine zX_aln0 (p := 106) d_151_105 rfl (zX_iln2 (p := 107) d_151_106 rfl (zX_cV1i (p := 110) ⟨ow_152, by decide⟩ zo_148 d_151_107 ow_151 rs_10_65 kk_152 rfl (s152 hL) rfl rfl rfl rfl (fun v8 => ?_)))
    refine zX_zeq (p1 := 127) (p2 := 113) d_151_110 (by decide) rfl ?_ ?_
    · refine zX_ic (p := 128) d_151_127 ci_0 rfl ?_
      exact zX_retib d_151_128 rt_151 (Or.inl rfl)
    · refine zX_iln3 (p := 114) d_151_113 rfl (zX_ic (p := 115) d_151_114 ci_0 rfl (zX_bi (p := 117) d_151_115 cb_99 rfl (zX_cS3i (p := 120) d_151_117 ow_151 rs_10_53 kk_149 rfl (s149 hL) rfl rfl rfl rfl (fun v9 => ?_))))
      refine zX_zeq (p1 := 127) (p2 := 123) d_151_120 (by decide) rfl ?_ ?_
      · refine zX_ic (p := 128) d_151_127 ci_0 rfl ?_
        exact zX_retib d_151_128 rt_151 (Or.inl rfl)
      · refine zX_ic (p := 124) d_151_123 ci_1 rfl (zX_goto (p := 128) d_151_124 (by decide) ?_)
        exact zX_retib d_151_128 rt_151 (Or.inr rfl)
  have hz1 : (a1 : Int32).toInt < 0 ∨ 5 < (a1 : Int32).toInt := by
    have := zne_i (n := 0) (by decide) hs1_0
    have := zne_i (n := 1) (by decide) hs1_1
    have := zne_i (n := 2) (by decide) hs1_2
    have := zne_i (n := 3) (by decide) hs1_3
    have := zne_i (n := 4) (by decide) hs1_4
    have := zne_i (n := 5) (by decide) hs1_5
    omega
  refine zX_tsd (p := 129) d_151_1 hz1 (by decide) ?_
  refine zX_ic (p := 130) d_151_129 ci_0 rfl ?_
  exact zX_retib d_151_130 rt_151 (Or.inl rfl)

theorem s153 {q : ZQ} {d : Nat} (hL : zLay q) {a0 : Int32} {a1 : Int32} {M : ZI} : zX q d 153 0 [.val (.int a0), .val (.int a1)] [] M (f153_placeOf a0 a1) (zEi M) := by
  unfold f153_placeOf
  refine zX_iln0 (p := 1) d_153_0 rfl ?_
  refine zX_ite (fun hs1_0 => ?_) (fun hs1_0 => ?_)
  · refine zX_tsh (p := 36) (n := 0) d_153_1 hs1_0 (by decide) (by decide) (by decide) rfl (by decide) ?_
    refine zX_ic (p := 37) d_153_36 ci_1 rfl ?_
    exact zX_reti d_153_37 rt_153
  refine zX_ite (fun hs1_1 => ?_) (fun hs1_1 => ?_)
  · refine zX_tsh (p := 38) (n := 1) d_153_1 hs1_1 (by decide) (by decide) (by decide) rfl (by decide) ?_
    refine zX_bi (p := 40) d_153_38 cb_49 rfl ?_
    exact zX_reti d_153_40 rt_153
  refine zX_ite (fun hs1_2 => ?_) (fun hs1_2 => ?_)
  · refine zX_tsh (p := 41) (n := 2) d_153_1 hs1_2 (by decide) (by decide) (by decide) rfl (by decide) ?_
    refine zX_bi (p := 43) d_153_41 cb_50 rfl ?_
    exact zX_reti d_153_43 rt_153
  refine zX_ite (fun hs1_3 => ?_) (fun hs1_3 => ?_)
  · refine zX_tsh (p := 44) (n := 3) d_153_1 hs1_3 (by decide) (by decide) (by decide) rfl (by decide) ?_
    refine zX_bi (p := 46) d_153_44 cb_60 rfl (zX_iln1 (p := 47) d_153_46 rfl (zX_add (p := 48) d_153_47 rfl ?_))
    exact zX_reti d_153_48 rt_153
  refine zX_ite (fun hs1_4 => ?_) (fun hs1_4 => ?_)
  · refine zX_tsh (p := 49) (n := 4) d_153_1 hs1_4 (by decide) (by decide) (by decide) rfl (by decide) ?_
    refine zX_bi (p := 51) d_153_49 cb_70 rfl (zX_iln1 (p := 52) d_153_51 rfl (zX_add (p := 53) d_153_52 rfl ?_))
    exact zX_reti d_153_53 rt_153
  have hz1 : (a0 : Int32).toInt < 0 ∨ 4 < (a0 : Int32).toInt := by
    have := zne_i (n := 0) (by decide) hs1_0
    have := zne_i (n := 1) (by decide) hs1_1
    have := zne_i (n := 2) (by decide) hs1_2
    have := zne_i (n := 3) (by decide) hs1_3
    have := zne_i (n := 4) (by decide) hs1_4
    omega
  refine zX_tsd (p := 54) d_153_1 hz1 (by decide) ?_
  refine zX_bi (p := 56) d_153_54 cb_17 rfl (zX_iln1 (p := 57) d_153_56 rfl (zX_add (p := 58) d_153_57 rfl ?_))
  exact zX_reti d_153_58 rt_153

theorem s150 {q : ZQ} {d : Nat} (hL : zLay q) {a1 : Int32} {a2 : Int32} {a3 : Int32} {M : ZI} : zX q (d + 3) 150 0 [.val (.ref 148), .val (.int a1), .val (.int a2), .val (.int a3)] [] M (f150_set a1 a2 a3 M) zEm := by
  unfold f150_set
  refine zX_aln0 (p := 1) d_150_0 rfl (zX_iln1 (p := 2) d_150_1 rfl (zX_iln2 (p := 3) d_150_2 rfl (zX_iln3 (p := 4) d_150_3 rfl (zX_cV3i (p := 7) ⟨ow_151, by decide⟩ zo_148 d_150_4 ow_150 rs_10_69 kk_151 rfl (s151 hL) rfl rfl rfl rfl (fun v1 => ?_)))))
  refine zX_zne (p1 := 12) (p2 := 10) d_150_7 (by decide) rfl ?_ ?_
  · refine zX_aln0 (p := 13) d_150_12 rfl (zX_gr (p := 16) (b := 149) d_150_13 ow_150 gf_10_7 zo_148 (zr_10_0 hL zo_148) rfl (zX_iln1 (p := 17) d_150_16 rfl (zX_iln2 (p := 18) d_150_17 rfl (zX_cS2i (p := 21) d_150_18 ow_150 rs_10_72 kk_153 rfl (s153 hL) rfl rfl rfl rfl (fun v2 => ?_)))))
    refine zX_iln3 (p := 22) d_150_21 rfl (zX_itg (p := 23) d_150_22 za_149 rfl (fun M3 => ?_))
    refine zX_aln0 (p := 24) d_150_23 rfl (zX_cV0v (p := 27) ⟨ow_147, by decide⟩ zo_148 d_150_24 ow_150 rs_10_60 kk_147 rfl (s147 hL) rfl rfl rfl rfl (fun M4 => ?_))
    refine zX_ic (p := 28) d_150_27 ci_1 rfl ?_
    exact zX_retmb d_150_28 rt_150 (Or.inr rfl)
  · refine zX_ic (p := 11) d_150_10 ci_0 rfl ?_
    exact zX_retmb d_150_11 rt_150 (Or.inl rfl)

theorem s154_l18 {q : ZQ} {d : Nat} (hL : zLay q) {a1 : Int32} {a2 : Int32} {a3 : Int32} {a4 : Int32} {a5 : Int32} : ∀ (n : Nat) (x1 : Int32) (M3 : ZI) (s2 : Slot), zX q d 154 18 [.val (.ref 148), .val (.int a1), .val (.int a2), .val (.int a3), .val (.int a4), .val (.int a5), .val (.int x1), s2] [] M3 (f154_l18 a1 a2 a3 a4 a5 n x1 M3) (zEj q d 154 115 (fun (b : ZI) (s : Slot × Slot) => [.val (.ref 148), .val (.int a1), .val (.int a2), .val (.int a3), .val (.int a4), .val (.int a5), s.1, s.2]) (fun b => []) (fun b => b)) := by
  intro n
  induction n with
  | zero => intros; exact zX_none
  | succ n ih =>
    intro x1 M3 s2
    rw [f154_l18]
    refine zX_il6 (p := 20) d_154_18 rfl (zX_bi (p := 22) d_154_20 cb_20 rfl ?_)
    refine zX_cge (p1 := 115) (p2 := 25) d_154_22 (by decide) rfl ?_ ?_
    · exact zX_leaf (fun _ _ h => h (.val (.int x1), s2))
    · refine zX_il6 (p := 27) d_154_25 rfl (zX_ic (p := 28) d_154_27 ci_4 rfl ?_)
      refine zX_bind (σ := Unit) (β := Int32) (pj := 71) (lj := fun (b : Int32) (s : Unit) => [.val (.ref 148), .val (.int a1), .val (.int a2), .val (.int a3), .val (.int a4), .val (.int a5), .val (.int x1), s2]) (sj := fun b => [.int b]) (mj := fun b => M3) ?_ ?_
      · refine zX_cge (p1 := 35) (p2 := 31) d_154_28 (by decide) rfl ?_ ?_
        · refine zX_il6 (p := 37) d_154_35 rfl (zX_bi (p := 39) d_154_37 cb_8 rfl ?_)
          refine zX_cge (p1 := 46) (p2 := 42) d_154_39 (by decide) rfl ?_ ?_
          · refine zX_il6 (p := 48) d_154_46 rfl (zX_bi (p := 50) d_154_48 cb_12 rfl ?_)
            refine zX_cge (p1 := 57) (p2 := 53) d_154_50 (by decide) rfl ?_ ?_
            · refine zX_il6 (p := 59) d_154_57 rfl (zX_bi (p := 61) d_154_59 cb_16 rfl ?_)
              refine zX_cge (p1 := 69) (p2 := 64) d_154_61 (by decide) rfl ?_ ?_
              · refine zX_il5 (p := 71) d_154_69 rfl ?_
                exact zX_leaf (fun _ _ h => h ())
              · refine zX_il4 (p := 66) d_154_64 rfl (zX_goto (p := 71) d_154_66 (by decide) ?_)
                exact zX_leaf (fun _ _ h => h ())
            · refine zX_iln3 (p := 54) d_154_53 rfl (zX_goto (p := 71) d_154_54 (by decide) ?_)
              exact zX_leaf (fun _ _ h => h ())
          · refine zX_iln2 (p := 43) d_154_42 rfl (zX_goto (p := 71) d_154_43 (by decide) ?_)
            exact zX_leaf (fun _ _ h => h ())
        · refine zX_iln1 (p := 32) d_154_31 rfl (zX_goto (p := 71) d_154_32 (by decide) ?_)
          exact zX_leaf (fun _ _ h => h ())
      · rintro v4 _
        try dsimp only
        refine zX_is7 (p := 73) d_154_71 rfl (zX_aln0 (p := 74) d_154_73 rfl (zX_gr (p := 77) (b := 158) d_154_74 ow_154 gf_10_37 zo_148 (zr_10_11 hL zo_148) rfl (zX_aln0 (p := 78) d_154_77 rfl (zX_gi (p := 81) d_154_78 ow_154 gf_10_76 zo_148 rfl (zX_il7 (p := 83) d_154_81 rfl (zX_bi (p := 85) d_154_83 cb_24 rfl (zX_bi (p := 87) d_154_85 cb_8 rfl ?_)))))))
        refine zX_il6 (p := 89) d_154_87 rfl (zX_ic (p := 90) d_154_89 ci_4 rfl (zX_rem (p := 91) d_154_90 (by decide) rfl (zX_mul (p := 92) d_154_91 rfl (zX_sub (p := 93) d_154_92 rfl (zX_shr (p := 94) d_154_93 rfl (zX_si (p := 97) d_154_94 cs_255 rfl (zX_and (p := 98) d_154_97 rfl ?_)))))))
        refine zX_itg (p := 99) d_154_98 za_158 rfl (fun M5 => ?_)
        refine zX_aln0 (p := 100) d_154_99 rfl (zX_dup (p := 101) d_154_100 rfl rfl (zX_gi (p := 104) d_154_101 ow_154 gf_10_76 zo_148 rfl (zX_ic (p := 105) d_154_104 ci_1 rfl (zX_add (p := 106) d_154_105 rfl (zX_pi (p := 109) d_154_106 ow_154 gf_10_76 zo_148 rfl (fun M6 => ?_))))))
        refine zX_ii6 (p := 112) d_154_109 ci_1 rfl (zX_goto (p := 18) d_154_112 (by decide) ?_)
        exact ih (x1 + (1 : Int32)) M6 (.val (.int v4))

theorem s154 {q : ZQ} {d : Nat} (hL : zLay q) {a1 : Int32} {a2 : Int32} {a3 : Int32} {a4 : Int32} {a5 : Int32} {M : ZI} : zX q d 154 0 [.val (.ref 148), .val (.int a1), .val (.int a2), .val (.int a3), .val (.int a4), .val (.int a5), .unset, .unset] [] M (f154_feed a1 a2 a3 a4 a5 M) zEm := by
  unfold f154_feed
  refine zX_aln0 (p := 1) d_154_0 rfl (zX_gi (p := 4) d_154_1 ow_154 gf_10_76 zo_148 rfl (zX_bi (p := 6) d_154_4 cb_20 rfl (zX_add (p := 7) d_154_6 rfl (zX_si (p := 10) d_154_7 cs_400 rfl ?_))))
  refine zX_cle (p1 := 15) (p2 := 13) d_154_10 (by decide) rfl ?_ ?_
  · refine zX_ic (p := 16) d_154_15 ci_0 rfl (zX_is6 (p := 18) d_154_16 rfl ?_)
    refine zX_bind (s154_l18 hL zfu (0 : Int32) M (.unset)) ?_
    rintro M7 ⟨s8, s9⟩
    try dsimp only
    refine zX_aln0 (p := 116) d_154_115 rfl (zX_gi (p := 119) d_154_116 ow_154 gf_10_76 zo_148 rfl ?_)
    exact zX_retm d_154_119 rt_154
  · refine zX_ic (p := 14) d_154_13 ci_m1 rfl ?_
    exact zX_retm d_154_14 rt_154

theorem s155 {q : ZQ} {d : Nat} (hL : zLay q) {a1 : Int32} {M : ZI} : zX q (d + 1) 155 0 [.val (.ref 148), .val (.int a1)] [] M (f155_end a1 M) zEm := by
  unfold f155_end
  refine zX_iln1 (p := 1) d_155_0 rfl (zX_ic (p := 2) d_155_1 ci_0 rfl (zX_aln0 (p := 3) d_155_2 rfl (zX_gi (p := 6) d_155_3 ow_155 gf_10_76 zo_148 rfl (zX_cS3i (p := 9) d_155_6 ow_155 rs_10_53 kk_149 rfl (s149 hL) rfl rfl rfl rfl (fun v1 => ?_)))))
  refine zX_zne (p1 := 14) (p2 := 12) d_155_9 (by decide) rfl ?_ ?_
  · refine zX_aln0 (p := 15) d_155_14 rfl (zX_iln1 (p := 16) d_155_15 rfl (zX_pi (p := 19) d_155_16 ow_155 gf_10_76 zo_148 rfl (fun M2 => ?_)))
    refine zX_ic (p := 20) d_155_19 ci_1 rfl ?_
    exact zX_retmb d_155_20 rt_155 (Or.inr rfl)
  · refine zX_ic (p := 13) d_155_12 ci_0 rfl ?_
    exact zX_retmb d_155_13 rt_155 (Or.inl rfl)

theorem s158 {q : ZQ} {d : Nat} (hL : zLay q) {a1 : Int32} {M : ZI} : zX q d 158 0 [.val (.ref 148), .val (.int a1)] [] M (f158_see a1 M) (zEi M) := by
  unfold f158_see
  refine zX_iln1 (p := 1) d_158_0 rfl (zX_aln0 (p := 2) d_158_1 rfl (zX_gi (p := 5) d_158_2 ow_158 gf_10_76 zo_148 rfl ?_))
  refine zX_cge (p1 := 17) (p2 := 8) d_158_5 (by decide) rfl ?_ ?_
  · refine zX_ic (p := 18) d_158_17 ci_m1 rfl ?_
    exact zX_reti d_158_18 rt_158
  · refine zX_aln0 (p := 9) d_158_8 rfl (zX_gr (p := 12) (b := 158) d_158_9 ow_158 gf_10_37 zo_148 (zr_10_11 hL zo_148) rfl (zX_iln1 (p := 13) d_158_12 rfl (zX_iag (p := 14) d_158_13 za_158 rfl (zX_goto (p := 18) d_158_14 (by decide) ?_))))
    exact zX_reti d_158_18 rt_158

theorem s159 {q : ZQ} {d : Nat} (hL : zLay q) {a0 : Int32} {M : ZI} : zX q (d + 1) 159 0 [.val (.int a0)] [] M (f159_isLetter a0) (zEi M) := by
  unfold f159_isLetter
  refine zX_iln0 (p := 1) d_159_0 rfl (zX_bi (p := 3) d_159_1 cb_97 rfl (zX_bi (p := 5) d_159_3 cb_122 rfl (zX_cS3i (p := 8) d_159_5 ow_159 rs_10_53 kk_149 rfl (s149 hL) rfl rfl rfl rfl (fun v1 => ?_))))
  refine zX_zne (p1 := 22) (p2 := 11) d_159_8 (by decide) rfl ?_ ?_
  · refine zX_ic (p := 23) d_159_22 ci_1 rfl (zX_goto (p := 27) d_159_23 (by decide) ?_)
    exact zX_retib d_159_27 rt_159 (Or.inr rfl)
  · refine zX_iln0 (p := 12) d_159_11 rfl (zX_bi (p := 14) d_159_12 cb_65 rfl (zX_bi (p := 16) d_159_14 cb_90 rfl (zX_cS3i (p := 19) d_159_16 ow_159 rs_10_53 kk_149 rfl (s149 hL) rfl rfl rfl rfl (fun v2 => ?_))))
    refine zX_zeq (p1 := 26) (p2 := 22) d_159_19 (by decide) rfl ?_ ?_
    · refine zX_ic (p := 27) d_159_26 ci_0 rfl ?_
      exact zX_retib d_159_27 rt_159 (Or.inl rfl)
    · refine zX_ic (p := 23) d_159_22 ci_1 rfl (zX_goto (p := 27) d_159_23 (by decide) ?_)
      exact zX_retib d_159_27 rt_159 (Or.inr rfl)

theorem s162_l24 {q : ZQ} {d : Nat} (hL : zLay q) {a1 : Nat} {M : ZI} (ha1 : a1 < zSB.length) : ∀ (n : Nat) (x2 : Int32) (x3 : Int32), zX q (d + 6) 162 24 [.val (.ref 148), .val (.ref (2000000 + a1)), .val (.int x2), .val (.int x3)] [] M (f162_l24 a1 M n x2 x3) (zEj q (d + 6) 162 67 (fun (b : Int32) (s : Slot) => [.val (.ref 148), .val (.ref (2000000 + a1)), .val (.int b), s]) (fun b => []) (fun b => M)) := by
  intro n
  induction n with
  | zero => intros; exact zX_none
  | succ n ih =>
    intro x2 x3
    rw [f162_l24]
    refine zX_iln3 (p := 25) d_162_24 rfl (zX_aln1 (p := 26) d_162_25 rfl (zX_slen (p := 29) d_162_26 ow_162 rs_10_85 ha1 rfl rfl rfl ?_))
    refine zX_cge (p1 := 67) (p2 := 32) d_162_29 (by decide) rfl ?_ ?_
    · exact zX_leaf (fun _ _ h => h (.val (.int x3)))
    · refine zX_iln2 (p := 33) d_162_32 rfl ?_
      refine zX_zeq (p1 := 67) (p2 := 36) d_162_33 (by decide) rfl ?_ ?_
      · exact zX_leaf (fun _ _ h => h (.val (.int x3)))
      · refine zX_aln0 (p := 37) d_162_36 rfl (zX_gr (p := 40) (b := 158) d_162_37 ow_162 gf_10_37 zo_148 (zr_10_11 hL zo_148) rfl (zX_aln0 (p := 41) d_162_40 rfl (zX_gi (p := 44) d_162_41 ow_162 gf_10_82 zo_148 rfl (zX_iln3 (p := 45) d_162_44 rfl (zX_add (p := 46) d_162_45 rfl (zX_iag (p := 47) d_162_46 za_158 rfl (zX_aln1 (p := 48) d_162_47 rfl ?_)))))))
        refine zX_iln3 (p := 49) d_162_48 rfl (zX_sch (p := 52) d_162_49 ow_162 rs_10_91 ha1 rfl rfl rfl ?_)
        refine zX_cne (p1 := 59) (p2 := 55) d_162_52 (by decide) rfl ?_ ?_
        · refine zX_ic (p := 60) d_162_59 ci_0 rfl (zX_isn2 (p := 61) d_162_60 rfl (zX_ii3 (p := 64) d_162_61 ci_1 rfl (zX_goto (p := 24) d_162_64 (by decide) ?_)))
          exact ih (0 : Int32) (x3 + (1 : Int32))
        · refine zX_ic (p := 56) d_162_55 ci_1 rfl (zX_goto (p := 60) d_162_56 (by decide) (zX_isn2 (p := 61) d_162_60 rfl (zX_ii3 (p := 64) d_162_61 ci_1 rfl (zX_goto (p := 24) d_162_64 (by decide) ?_))))
          exact ih (1 : Int32) (x3 + (1 : Int32))

theorem s162 {q : ZQ} {d : Nat} (hL : zLay q) {a1 : Nat} {M : ZI} (ha1 : a1 < zSB.length) : zX q (d + 6) 162 0 [.val (.ref 148), .val (.ref (2000000 + a1)), .unset, .unset] [] M (f162_is a1 M) (zEi M) := by
  unfold f162_is
  refine zX_aln0 (p := 1) d_162_0 rfl (zX_gi (p := 4) d_162_1 ow_162 gf_10_79 zo_148 rfl (zX_aln0 (p := 5) d_162_4 rfl (zX_gi (p := 8) d_162_5 ow_162 gf_10_82 zo_148 rfl (zX_sub (p := 9) d_162_8 rfl (zX_aln1 (p := 10) d_162_9 rfl (zX_slen (p := 13) d_162_10 ow_162 rs_10_85 ha1 rfl rfl rfl ?_))))))
  refine zX_bind (σ := Unit) (β := Int32) (pj := 21) (lj := fun (b : Int32) (s : Unit) => [.val (.ref 148), .val (.ref (2000000 + a1)), .unset, .unset]) (sj := fun b => [.int b]) (mj := fun b => M) ?_ ?_
  · refine zX_cne (p1 := 20) (p2 := 16) d_162_13 (by decide) rfl ?_ ?_
    · refine zX_ic (p := 21) d_162_20 ci_0 rfl ?_
      exact zX_leaf (fun _ _ h => h ())
    · refine zX_ic (p := 17) d_162_16 ci_1 rfl (zX_goto (p := 21) d_162_17 (by decide) ?_)
      exact zX_leaf (fun _ _ h => h ())
  · rintro v1 _
    try dsimp only
    refine zX_isn2 (p := 22) d_162_21 rfl (zX_ic (p := 23) d_162_22 ci_0 rfl (zX_isn3 (p := 24) d_162_23 rfl ?_))
    refine zX_bind (s162_l24 hL ha1 zfu v1 (0 : Int32)) ?_
    rintro x4 s5
    try dsimp only
    refine zX_iln2 (p := 68) d_162_67 rfl ?_
    exact zX_retig d_162_68 rt_162

theorem s163 {q : ZQ} {d : Nat} (hL : zLay q) {M : ZI} : zX q (d + 7) 163 0 [.val (.ref 148)] [] M (f163_asked M) (zEi M) := by
  unfold f163_asked
  refine zX_aln0 (p := 1) d_163_0 rfl (zX_ldcs (p := 3) d_163_1 ow_163 st_10_95 rfl (zX_cV1i (p := 6) ⟨ow_162, by decide⟩ zo_148 d_163_3 ow_163 rs_10_97 kk_162 rfl (s162 hL zsh_8) rfl rfl rfl rfl (fun v1 => ?_)))
  refine zX_zeq (p1 := 12) (p2 := 9) d_163_6 (by decide) rfl ?_ ?_
  · refine zX_aln0 (p := 13) d_163_12 rfl (zX_ldcs (p := 15) d_163_13 ow_163 st_10_101 rfl (zX_cV1i (p := 18) ⟨ow_162, by decide⟩ zo_148 d_163_15 ow_163 rs_10_97 kk_162 rfl (s162 hL zsh_9) rfl rfl rfl rfl (fun v2 => ?_)))
    refine zX_zeq (p1 := 24) (p2 := 21) d_163_18 (by decide) rfl ?_ ?_
    · refine zX_aln0 (p := 25) d_163_24 rfl (zX_ldcs (p := 27) d_163_25 ow_163 st_10_103 rfl (zX_cV1i (p := 30) ⟨ow_162, by decide⟩ zo_148 d_163_27 ow_163 rs_10_97 kk_162 rfl (s162 hL zsh_10) rfl rfl rfl rfl (fun v3 => ?_)))
      refine zX_zeq (p1 := 36) (p2 := 33) d_163_30 (by decide) rfl ?_ ?_
      · refine zX_aln0 (p := 37) d_163_36 rfl (zX_ldcs (p := 39) d_163_37 ow_163 st_10_105 rfl (zX_cV1i (p := 42) ⟨ow_162, by decide⟩ zo_148 d_163_39 ow_163 rs_10_97 kk_162 rfl (s162 hL zsh_11) rfl rfl rfl rfl (fun v4 => ?_)))
        refine zX_zeq (p1 := 48) (p2 := 45) d_163_42 (by decide) rfl ?_ ?_
        · refine zX_aln0 (p := 49) d_163_48 rfl (zX_ldcs (p := 51) d_163_49 ow_163 st_10_107 rfl (zX_cV1i (p := 54) ⟨ow_162, by decide⟩ zo_148 d_163_51 ow_163 rs_10_97 kk_162 rfl (s162 hL zsh_12) rfl rfl rfl rfl (fun v5 => ?_)))
          refine zX_zeq (p1 := 60) (p2 := 57) d_163_54 (by decide) rfl ?_ ?_
          · refine zX_aln0 (p := 61) d_163_60 rfl (zX_ldcs (p := 63) d_163_61 ow_163 st_10_109 rfl (zX_cV1i (p := 66) ⟨ow_162, by decide⟩ zo_148 d_163_63 ow_163 rs_10_97 kk_162 rfl (s162 hL zsh_13) rfl rfl rfl rfl (fun v6 => ?_)))
            refine zX_zeq (p1 := 72) (p2 := 69) d_163_66 (by decide) rfl ?_ ?_
            · refine zX_aln0 (p := 73) d_163_72 rfl (zX_ldcs (p := 75) d_163_73 ow_163 st_10_111 rfl (zX_cV1i (p := 78) ⟨ow_162, by decide⟩ zo_148 d_163_75 ow_163 rs_10_97 kk_162 rfl (s162 hL zsh_14) rfl rfl rfl rfl (fun v7 => ?_)))
              refine zX_zeq (p1 := 84) (p2 := 81) d_163_78 (by decide) rfl ?_ ?_
              · refine zX_aln0 (p := 85) d_163_84 rfl (zX_ldcs (p := 87) d_163_85 ow_163 st_10_113 rfl (zX_cV1i (p := 90) ⟨ow_162, by decide⟩ zo_148 d_163_87 ow_163 rs_10_97 kk_162 rfl (s162 hL zsh_15) rfl rfl rfl rfl (fun v8 => ?_)))
                refine zX_zeq (p1 := 96) (p2 := 93) d_163_90 (by decide) rfl ?_ ?_
                · refine zX_aln0 (p := 97) d_163_96 rfl (zX_ldcs (p := 99) d_163_97 ow_163 st_10_115 rfl (zX_cV1i (p := 102) ⟨ow_162, by decide⟩ zo_148 d_163_99 ow_163 rs_10_97 kk_162 rfl (s162 hL zsh_16) rfl rfl rfl rfl (fun v9 => ?_)))
                  refine zX_zeq (p1 := 110) (p2 := 105) d_163_102 (by decide) rfl ?_ ?_
                  · refine zX_ic (p := 111) d_163_110 ci_1 rfl ?_
                    exact zX_reti d_163_111 rt_163
                  · refine zX_bi (p := 107) d_163_105 cb_49 rfl (zX_goto (p := 111) d_163_107 (by decide) ?_)
                    exact zX_reti d_163_111 rt_163
                · refine zX_bi (p := 95) d_163_93 cb_48 rfl ?_
                  exact zX_reti d_163_95 rt_163
              · refine zX_bi (p := 83) d_163_81 cb_47 rfl ?_
                exact zX_reti d_163_83 rt_163
            · refine zX_bi (p := 71) d_163_69 cb_46 rfl ?_
              exact zX_reti d_163_71 rt_163
          · refine zX_bi (p := 59) d_163_57 cb_45 rfl ?_
            exact zX_reti d_163_59 rt_163
        · refine zX_bi (p := 47) d_163_45 cb_44 rfl ?_
          exact zX_reti d_163_47 rt_163
      · refine zX_bi (p := 35) d_163_33 cb_43 rfl ?_
        exact zX_reti d_163_35 rt_163
    · refine zX_bi (p := 23) d_163_21 cb_42 rfl ?_
      exact zX_reti d_163_23 rt_163
  · refine zX_bi (p := 11) d_163_9 cb_41 rfl ?_
    exact zX_reti d_163_11 rt_163

theorem s161 {q : ZQ} {d : Nat} (hL : zLay q) {M : ZI} : zX q (d + 8) 161 0 [.val (.ref 148)] [] M (f161_lawWord M) (zEi M) := by
  unfold f161_lawWord
  refine zX_aln0 (p := 1) d_161_0 rfl (zX_ldcs (p := 3) d_161_1 ow_161 st_10_117 rfl (zX_cV1i (p := 6) ⟨ow_162, by decide⟩ zo_148 d_161_3 ow_161 rs_10_97 kk_162 rfl (s162 hL zsh_1) rfl rfl rfl rfl (fun v1 => ?_)))
  refine zX_zeq (p1 := 11) (p2 := 9) d_161_6 (by decide) rfl ?_ ?_
  · refine zX_aln0 (p := 12) d_161_11 rfl (zX_ldcs (p := 14) d_161_12 ow_161 st_10_119 rfl (zX_cV1i (p := 17) ⟨ow_162, by decide⟩ zo_148 d_161_14 ow_161 rs_10_97 kk_162 rfl (s162 hL zsh_2) rfl rfl rfl rfl (fun v2 => ?_)))
    refine zX_zeq (p1 := 22) (p2 := 20) d_161_17 (by decide) rfl ?_ ?_
    · refine zX_aln0 (p := 23) d_161_22 rfl (zX_ldcs (p := 25) d_161_23 ow_161 st_10_121 rfl (zX_cV1i (p := 28) ⟨ow_162, by decide⟩ zo_148 d_161_25 ow_161 rs_10_97 kk_162 rfl (s162 hL zsh_3) rfl rfl rfl rfl (fun v3 => ?_)))
      refine zX_zeq (p1 := 33) (p2 := 31) d_161_28 (by decide) rfl ?_ ?_
      · refine zX_aln0 (p := 34) d_161_33 rfl (zX_ldcs (p := 36) d_161_34 ow_161 st_10_123 rfl (zX_cV1i (p := 39) ⟨ow_162, by decide⟩ zo_148 d_161_36 ow_161 rs_10_97 kk_162 rfl (s162 hL zsh_4) rfl rfl rfl rfl (fun v4 => ?_)))
        refine zX_zeq (p1 := 45) (p2 := 42) d_161_39 (by decide) rfl ?_ ?_
        · refine zX_aln0 (p := 46) d_161_45 rfl (zX_ldcs (p := 48) d_161_46 ow_161 st_10_125 rfl (zX_cV1i (p := 51) ⟨ow_162, by decide⟩ zo_148 d_161_48 ow_161 rs_10_97 kk_162 rfl (s162 hL zsh_5) rfl rfl rfl rfl (fun v5 => ?_)))
          refine zX_zeq (p1 := 57) (p2 := 54) d_161_51 (by decide) rfl ?_ ?_
          · refine zX_aln0 (p := 58) d_161_57 rfl (zX_ldcs (p := 60) d_161_58 ow_161 st_10_127 rfl (zX_cV1i (p := 63) ⟨ow_162, by decide⟩ zo_148 d_161_60 ow_161 rs_10_97 kk_162 rfl (s162 hL zsh_6) rfl rfl rfl rfl (fun v6 => ?_)))
            refine zX_zeq (p1 := 69) (p2 := 66) d_161_63 (by decide) rfl ?_ ?_
            · refine zX_aln0 (p := 70) d_161_69 rfl (zX_ldcs (p := 72) d_161_70 ow_161 st_10_129 rfl (zX_cV1i (p := 75) ⟨ow_162, by decide⟩ zo_148 d_161_72 ow_161 rs_10_97 kk_162 rfl (s162 hL zsh_7) rfl rfl rfl rfl (fun v7 => ?_)))
              refine zX_zeq (p1 := 83) (p2 := 78) d_161_75 (by decide) rfl ?_ ?_
              · refine zX_aln0 (p := 84) d_161_83 rfl (zX_cV0i (p := 87) ⟨ow_163, by decide⟩ zo_148 d_161_84 ow_161 rs_10_131 kk_163 rfl (s163 hL) rfl rfl rfl rfl (fun v8 => ?_))
                exact zX_reti d_161_87 rt_161
              · refine zX_bi (p := 80) d_161_78 cb_22 rfl (zX_goto (p := 87) d_161_80 (by decide) ?_)
                exact zX_reti d_161_87 rt_161
            · refine zX_bi (p := 68) d_161_66 cb_21 rfl ?_
              exact zX_reti d_161_68 rt_161
          · refine zX_bi (p := 56) d_161_54 cb_20 rfl ?_
            exact zX_reti d_161_56 rt_161
        · refine zX_bi (p := 44) d_161_42 cb_6 rfl ?_
          exact zX_reti d_161_44 rt_161
      · refine zX_ic (p := 32) d_161_31 ci_5 rfl ?_
        exact zX_reti d_161_32 rt_161
    · refine zX_ic (p := 21) d_161_20 ci_4 rfl ?_
      exact zX_reti d_161_21 rt_161
  · refine zX_ic (p := 10) d_161_9 ci_3 rfl ?_
    exact zX_reti d_161_10 rt_161

theorem s164 {q : ZQ} {d : Nat} (hL : zLay q) {M : ZI} : zX q (d + 7) 164 0 [.val (.ref 148)] [] M (f164_workWord M) (zEi M) := by
  unfold f164_workWord
  refine zX_aln0 (p := 1) d_164_0 rfl (zX_ldcs (p := 3) d_164_1 ow_164 st_10_134 rfl (zX_cV1i (p := 6) ⟨ow_162, by decide⟩ zo_148 d_164_3 ow_164 rs_10_97 kk_162 rfl (s162 hL zsh_18) rfl rfl rfl rfl (fun v1 => ?_)))
  refine zX_zeq (p1 := 12) (p2 := 9) d_164_6 (by decide) rfl ?_ ?_
  · refine zX_aln0 (p := 13) d_164_12 rfl (zX_ldcs (p := 15) d_164_13 ow_164 st_10_136 rfl (zX_cV1i (p := 18) ⟨ow_162, by decide⟩ zo_148 d_164_15 ow_164 rs_10_97 kk_162 rfl (s162 hL zsh_19) rfl rfl rfl rfl (fun v2 => ?_)))
    refine zX_zeq (p1 := 24) (p2 := 21) d_164_18 (by decide) rfl ?_ ?_
    · refine zX_aln0 (p := 25) d_164_24 rfl (zX_ldcs (p := 27) d_164_25 ow_164 st_10_138 rfl (zX_cV1i (p := 30) ⟨ow_162, by decide⟩ zo_148 d_164_27 ow_164 rs_10_97 kk_162 rfl (s162 hL zsh_20) rfl rfl rfl rfl (fun v3 => ?_)))
      refine zX_zeq (p1 := 36) (p2 := 33) d_164_30 (by decide) rfl ?_ ?_
      · refine zX_aln0 (p := 37) d_164_36 rfl (zX_ldcs (p := 39) d_164_37 ow_164 st_10_140 rfl (zX_cV1i (p := 42) ⟨ow_162, by decide⟩ zo_148 d_164_39 ow_164 rs_10_97 kk_162 rfl (s162 hL zsh_21) rfl rfl rfl rfl (fun v4 => ?_)))
        refine zX_zeq (p1 := 48) (p2 := 45) d_164_42 (by decide) rfl ?_ ?_
        · refine zX_aln0 (p := 49) d_164_48 rfl (zX_ldcs (p := 51) d_164_49 ow_164 st_10_142 rfl (zX_cV1i (p := 54) ⟨ow_162, by decide⟩ zo_148 d_164_51 ow_164 rs_10_97 kk_162 rfl (s162 hL zsh_22) rfl rfl rfl rfl (fun v5 => ?_)))
          refine zX_zeq (p1 := 60) (p2 := 57) d_164_54 (by decide) rfl ?_ ?_
          · refine zX_aln0 (p := 61) d_164_60 rfl (zX_ldcs (p := 63) d_164_61 ow_164 st_10_144 rfl (zX_cV1i (p := 66) ⟨ow_162, by decide⟩ zo_148 d_164_63 ow_164 rs_10_97 kk_162 rfl (s162 hL zsh_23) rfl rfl rfl rfl (fun v6 => ?_)))
            refine zX_zeq (p1 := 74) (p2 := 69) d_164_66 (by decide) rfl ?_ ?_
            · refine zX_ic (p := 75) d_164_74 ci_1 rfl ?_
              exact zX_reti d_164_75 rt_164
            · refine zX_bi (p := 71) d_164_69 cb_13 rfl (zX_goto (p := 75) d_164_71 (by decide) ?_)
              exact zX_reti d_164_75 rt_164
          · refine zX_bi (p := 59) d_164_57 cb_12 rfl ?_
            exact zX_reti d_164_59 rt_164
        · refine zX_bi (p := 47) d_164_45 cb_11 rfl ?_
          exact zX_reti d_164_47 rt_164
      · refine zX_bi (p := 35) d_164_33 cb_10 rfl ?_
        exact zX_reti d_164_35 rt_164
    · refine zX_bi (p := 23) d_164_21 cb_9 rfl ?_
      exact zX_reti d_164_23 rt_164
  · refine zX_bi (p := 11) d_164_9 cb_8 rfl ?_
    exact zX_reti d_164_11 rt_164

theorem s165 {q : ZQ} {d : Nat} (hL : zLay q) {M : ZI} : zX q (d + 7) 165 0 [.val (.ref 148)] [] M (f165_councilWord M) (zEi M) := by
  unfold f165_councilWord
  refine zX_aln0 (p := 1) d_165_0 rfl (zX_ldcs (p := 3) d_165_1 ow_165 st_10_119 rfl (zX_cV1i (p := 6) ⟨ow_162, by decide⟩ zo_148 d_165_3 ow_165 rs_10_97 kk_162 rfl (s162 hL zsh_2) rfl rfl rfl rfl (fun v1 => ?_)))
  refine zX_zeq (p1 := 11) (p2 := 9) d_165_6 (by decide) rfl ?_ ?_
  · refine zX_aln0 (p := 12) d_165_11 rfl (zX_ldcs (p := 14) d_165_12 ow_165 st_10_121 rfl (zX_cV1i (p := 17) ⟨ow_162, by decide⟩ zo_148 d_165_14 ow_165 rs_10_97 kk_162 rfl (s162 hL zsh_3) rfl rfl rfl rfl (fun v2 => ?_)))
    refine zX_zeq (p1 := 22) (p2 := 20) d_165_17 (by decide) rfl ?_ ?_
    · refine zX_aln0 (p := 23) d_165_22 rfl (zX_ldcs (p := 25) d_165_23 ow_165 st_10_146 rfl (zX_cV1i (p := 28) ⟨ow_162, by decide⟩ zo_148 d_165_25 ow_165 rs_10_97 kk_162 rfl (s162 hL zsh_24) rfl rfl rfl rfl (fun v3 => ?_)))
      refine zX_zeq (p1 := 36) (p2 := 31) d_165_28 (by decide) rfl ?_ ?_
      · refine zX_ic (p := 37) d_165_36 ci_1 rfl ?_
        exact zX_reti d_165_37 rt_165
      · refine zX_bi (p := 33) d_165_31 cb_14 rfl (zX_goto (p := 37) d_165_33 (by decide) ?_)
        exact zX_reti d_165_37 rt_165
    · refine zX_ic (p := 21) d_165_20 ci_5 rfl ?_
      exact zX_reti d_165_21 rt_165
  · refine zX_ic (p := 10) d_165_9 ci_4 rfl ?_
    exact zX_reti d_165_10 rt_165

theorem s160 {q : ZQ} {d : Nat} (hL : zLay q) {M : ZI} : zX q (d + 9) 160 0 [.val (.ref 148)] [] M (f160_word M) (zEi M) := by
  unfold f160_word
  refine zX_aln0 (p := 1) d_160_0 rfl (zX_gi (p := 4) d_160_1 ow_160 gf_10_148 zo_148 rfl ?_)
  refine zX_ite (fun hs4_0 => ?_) (fun hs4_0 => ?_)
  · refine zX_tsh (p := 32) (n := 0) d_160_4 hs4_0 (by decide) (by decide) (by decide) rfl (by decide) ?_
    refine zX_aln0 (p := 33) d_160_32 rfl (zX_cV0i (p := 36) ⟨ow_161, by decide⟩ zo_148 d_160_33 ow_160 rs_10_151 kk_161 rfl (s161 hL) rfl rfl rfl rfl (fun v1 => ?_))
    exact zX_reti d_160_36 rt_160
  refine zX_ite (fun hs4_1 => ?_) (fun hs4_1 => ?_)
  · refine zX_tsh (p := 37) (n := 1) d_160_4 hs4_1 (by decide) (by decide) (by decide) rfl (by decide) ?_
    refine zX_aln0 (p := 38) d_160_37 rfl (zX_ldcs (p := 40) d_160_38 ow_160 st_10_154 rfl (zX_cV1i (p := 43) ⟨ow_162, by decide⟩ zo_148 d_160_40 ow_160 rs_10_97 kk_162 rfl (s162 hL zsh_17) rfl rfl rfl rfl (fun v2 => ?_)))
    refine zX_zeq (p1 := 51) (p2 := 46) d_160_43 (by decide) rfl ?_ ?_
    · refine zX_ic (p := 52) d_160_51 ci_1 rfl ?_
      exact zX_reti d_160_52 rt_160
    · refine zX_bi (p := 48) d_160_46 cb_7 rfl (zX_goto (p := 52) d_160_48 (by decide) ?_)
      exact zX_reti d_160_52 rt_160
  refine zX_ite (fun hs4_2 => ?_) (fun hs4_2 => ?_)
  · refine zX_tsh (p := 53) (n := 2) d_160_4 hs4_2 (by decide) (by decide) (by decide) rfl (by decide) ?_
    refine zX_aln0 (p := 54) d_160_53 rfl (zX_cV0i (p := 57) ⟨ow_164, by decide⟩ zo_148 d_160_54 ow_160 rs_10_156 kk_164 rfl (s164 hL) rfl rfl rfl rfl (fun v3 => ?_))
    exact zX_reti d_160_57 rt_160
  have hz4 : ((M 148 14) : Int32).toInt < 0 ∨ 2 < ((M 148 14) : Int32).toInt := by
    have := zne_i (n := 0) (by decide) hs4_0
    have := zne_i (n := 1) (by decide) hs4_1
    have := zne_i (n := 2) (by decide) hs4_2
    omega
  refine zX_tsd (p := 58) d_160_4 hz4 (by decide) ?_
  refine zX_aln0 (p := 59) d_160_58 rfl (zX_cV0i (p := 62) ⟨ow_165, by decide⟩ zo_148 d_160_59 ow_160 rs_10_159 kk_165 rfl (s165 hL) rfl rfl rfl rfl (fun v4 => ?_))
  exact zX_reti d_160_62 rt_160

theorem s166 {q : ZQ} {d : Nat} (hL : zLay q) {a0 : Int32} {M : ZI} : zX q (d + 1) 166 0 [.val (.int a0)] [] M (f166_isDigit a0) (zEi M) := by
  unfold f166_isDigit
  refine zX_iln0 (p := 1) d_166_0 rfl (zX_bi (p := 3) d_166_1 cb_48 rfl (zX_bi (p := 5) d_166_3 cb_57 rfl (zX_cS3i (p := 8) d_166_5 ow_166 rs_10_53 kk_149 rfl (s149 hL) rfl rfl rfl rfl (fun v1 => ?_))))
  exact zX_retig d_166_8 rt_166

theorem s157_l0 {q : ZQ} {d : Nat} (hL : zLay q)  : ∀ (n : Nat) (M1 : ZI), zX q (d + 10) 157 0 [.val (.ref 148), .unset, .unset] [] M1 (f157_l0 n M1) (zEj q (d + 10) 157 39 (fun (b : ZI) (s : Unit) => [.val (.ref 148), .unset, .unset]) (fun b => []) (fun b => b)) := by
  intro n
  induction n with
  | zero => intros; exact zX_none
  | succ n ih =>
    intro M1
    rw [f157_l0]
    refine zX_aln0 (p := 1) d_157_0 rfl (zX_aln0 (p := 2) d_157_1 rfl (zX_gi (p := 5) d_157_2 ow_157 gf_10_79 zo_148 rfl (zX_cV1i (p := 8) ⟨ow_158, by decide⟩ zo_148 d_157_5 ow_157 rs_10_162 kk_158 rfl (s158 hL) rfl rfl rfl rfl (fun v2 => ?_))))
    refine zX_bi (p := 10) d_157_8 cb_32 rfl ?_
    refine zX_jn (P := fun g => ∀ (_ : Unit), zX q (d + 10) 157 26 [.val (.ref 148), .unset, .unset] [] M1 (g ()) (zEj q (d + 10) 157 39 (fun (b : ZI) (s : Unit) => [.val (.ref 148), .unset, .unset]) (fun b => []) (fun b => b))) ?_ (fun j4 hj4 => ?_)
    · intro _
      try dsimp only
      refine zX_aln0 (p := 27) d_157_26 rfl (zX_dup (p := 28) d_157_27 rfl rfl (zX_gi (p := 31) d_157_28 ow_157 gf_10_79 zo_148 rfl (zX_ic (p := 32) d_157_31 ci_1 rfl (zX_add (p := 33) d_157_32 rfl (zX_pi (p := 36) d_157_33 ow_157 gf_10_79 zo_148 rfl (fun M3 => ?_))))))
      refine zX_goto (p := 0) d_157_36 (by decide) ?_
      exact ih M3
    · refine zX_ceq (p1 := 26) (p2 := 13) d_157_10 (by decide) rfl ?_ ?_
      · exact hj4 ()
      · refine zX_aln0 (p := 14) d_157_13 rfl (zX_aln0 (p := 15) d_157_14 rfl (zX_gi (p := 18) d_157_15 ow_157 gf_10_79 zo_148 rfl (zX_cV1i (p := 21) ⟨ow_158, by decide⟩ zo_148 d_157_18 ow_157 rs_10_162 kk_158 rfl (s158 hL) rfl rfl rfl rfl (fun v5 => ?_))))
        refine zX_bi (p := 23) d_157_21 cb_10 rfl ?_
        refine zX_cne (p1 := 39) (p2 := 26) d_157_23 (by decide) rfl ?_ ?_
        · exact zX_leaf (fun _ _ h => h ())
        · exact hj4 ()

theorem s157_l126 {q : ZQ} {d : Nat} (hL : zLay q) {v8 : Int32} : ∀ (n : Nat) (M16 : ZI), zX q (d + 10) 157 126 [.val (.ref 148), .val (.int v8), .unset] [] M16 (f157_l126 n M16) (zEj q (d + 10) 157 189 (fun (b : ZI) (s : Unit) => [.val (.ref 148), .val (.int v8), .unset]) (fun b => []) (fun b => b)) := by
  intro n
  induction n with
  | zero => intros; exact zX_none
  | succ n ih =>
    intro M16
    rw [f157_l126]
    refine zX_aln0 (p := 127) d_157_126 rfl (zX_aln0 (p := 128) d_157_127 rfl (zX_gi (p := 131) d_157_128 ow_157 gf_10_79 zo_148 rfl (zX_cV1i (p := 134) ⟨ow_158, by decide⟩ zo_148 d_157_131 ow_157 rs_10_162 kk_158 rfl (s158 hL) rfl rfl rfl rfl (fun v17 => ?_))))
    refine zX_cS1i (p := 137) d_157_134 ow_157 rs_10_175 kk_166 rfl (s166 hL) rfl rfl rfl rfl (fun v18 => ?_)
    refine zX_zeq (p1 := 189) (p2 := 140) d_157_137 (by decide) rfl ?_ ?_
    · exact zX_leaf (fun _ _ h => h ())
    · refine zX_aln0 (p := 141) d_157_140 rfl (zX_gi (p := 144) d_157_141 ow_157 gf_10_79 zo_148 rfl (zX_aln0 (p := 145) d_157_144 rfl (zX_gi (p := 148) d_157_145 ow_157 gf_10_82 zo_148 rfl (zX_ic (p := 149) d_157_148 ci_4 rfl (zX_add (p := 150) d_157_149 rfl ?_)))))
      refine zX_bind (σ := Unit) (β := ZI) (pj := 176) (lj := fun (b : ZI) (s : Unit) => [.val (.ref 148), .val (.int v8), .unset]) (sj := fun b => []) (mj := fun b => b) ?_ ?_
      · refine zX_cge (p1 := 176) (p2 := 153) d_157_150 (by decide) rfl ?_ ?_
        · exact zX_leaf (fun _ _ h => h ())
        · refine zX_aln0 (p := 154) d_157_153 rfl (zX_bi (p := 156) d_157_154 cb_10 rfl (zX_aln0 (p := 157) d_157_156 rfl (zX_gi (p := 160) d_157_157 ow_157 gf_10_178 zo_148 rfl (zX_mul (p := 161) d_157_160 rfl (zX_aln0 (p := 162) d_157_161 rfl (zX_aln0 (p := 163) d_157_162 rfl (zX_gi (p := 166) d_157_163 ow_157 gf_10_79 zo_148 rfl ?_)))))))
          refine zX_cV1i (p := 169) ⟨ow_158, by decide⟩ zo_148 d_157_166 ow_157 rs_10_162 kk_158 rfl (s158 hL) rfl rfl rfl rfl (fun v19 => ?_)
          refine zX_add (p := 170) d_157_169 rfl (zX_bi (p := 172) d_157_170 cb_48 rfl (zX_sub (p := 173) d_157_172 rfl (zX_pi (p := 176) d_157_173 ow_157 gf_10_178 zo_148 rfl (fun M20 => ?_))))
          exact zX_leaf (fun _ _ h => h ())
      · rintro M21 _
        try dsimp only
        refine zX_aln0 (p := 177) d_157_176 rfl (zX_dup (p := 178) d_157_177 rfl rfl (zX_gi (p := 181) d_157_178 ow_157 gf_10_79 zo_148 rfl (zX_ic (p := 182) d_157_181 ci_1 rfl (zX_add (p := 183) d_157_182 rfl (zX_pi (p := 186) d_157_183 ow_157 gf_10_79 zo_148 rfl (fun M22 => ?_))))))
        refine zX_goto (p := 126) d_157_186 (by decide) ?_
        exact ih M22

theorem s157_l76 {q : ZQ} {d : Nat} (hL : zLay q) {v8 : Int32} : ∀ (n : Nat) (M26 : ZI), zX q (d + 10) 157 76 [.val (.ref 148), .val (.int v8), .unset] [] M26 (f157_l76 n M26) (zEj q (d + 10) 157 103 (fun (b : ZI) (s : Unit) => [.val (.ref 148), .val (.int v8), .unset]) (fun b => []) (fun b => b)) := by
  intro n
  induction n with
  | zero => intros; exact zX_none
  | succ n ih =>
    intro M26
    rw [f157_l76]
    refine zX_aln0 (p := 77) d_157_76 rfl (zX_aln0 (p := 78) d_157_77 rfl (zX_gi (p := 81) d_157_78 ow_157 gf_10_79 zo_148 rfl (zX_cV1i (p := 84) ⟨ow_158, by decide⟩ zo_148 d_157_81 ow_157 rs_10_162 kk_158 rfl (s158 hL) rfl rfl rfl rfl (fun v27 => ?_))))
    refine zX_cS1i (p := 87) d_157_84 ow_157 rs_10_169 kk_159 rfl (s159 hL) rfl rfl rfl rfl (fun v28 => ?_)
    refine zX_zeq (p1 := 103) (p2 := 90) d_157_87 (by decide) rfl ?_ ?_
    · exact zX_leaf (fun _ _ h => h ())
    · refine zX_aln0 (p := 91) d_157_90 rfl (zX_dup (p := 92) d_157_91 rfl rfl (zX_gi (p := 95) d_157_92 ow_157 gf_10_79 zo_148 rfl (zX_ic (p := 96) d_157_95 ci_1 rfl (zX_add (p := 97) d_157_96 rfl (zX_pi (p := 100) d_157_97 ow_157 gf_10_79 zo_148 rfl (fun M29 => ?_))))))
      refine zX_goto (p := 76) d_157_100 (by decide) ?_
      exact ih M29

theorem s157 {q : ZQ} {d : Nat} (hL : zLay q) {M : ZI} : zX q (d + 10) 157 0 [.val (.ref 148), .unset, .unset] [] M (f157_next0 M) zEv := by
  unfold f157_next0
  refine zX_bind (s157_l0 hL zfu M) ?_
  rintro M6 _
  try dsimp only
  refine zX_aln0 (p := 40) d_157_39 rfl (zX_aln0 (p := 41) d_157_40 rfl (zX_gi (p := 44) d_157_41 ow_157 gf_10_79 zo_148 rfl (zX_pi (p := 47) d_157_44 ow_157 gf_10_82 zo_148 rfl (fun M7 => ?_))))
  refine zX_aln0 (p := 48) d_157_47 rfl (zX_aln0 (p := 49) d_157_48 rfl (zX_gi (p := 52) d_157_49 ow_157 gf_10_79 zo_148 rfl (zX_cV1i (p := 55) ⟨ow_158, by decide⟩ zo_148 d_157_52 ow_157 rs_10_162 kk_158 rfl (s158 hL) rfl rfl rfl rfl (fun v8 => ?_))))
  refine zX_isn1 (p := 56) d_157_55 rfl (zX_iln1 (p := 57) d_157_56 rfl (zX_ic (p := 58) d_157_57 ci_m1 rfl ?_))
  refine zX_cne (p1 := 69) (p2 := 61) d_157_58 (by decide) rfl ?_ ?_
  · refine zX_iln1 (p := 70) d_157_69 rfl (zX_cS1i (p := 73) d_157_70 ow_157 rs_10_169 kk_159 rfl (s159 hL) rfl rfl rfl rfl (fun v9 => ?_))
    refine zX_zeq (p1 := 114) (p2 := 76) d_157_73 (by decide) rfl ?_ ?_
    · refine zX_iln1 (p := 115) d_157_114 rfl (zX_cS1i (p := 118) d_157_115 ow_157 rs_10_175 kk_166 rfl (s166 hL) rfl rfl rfl rfl (fun v10 => ?_))
      refine zX_zeq (p1 := 214) (p2 := 121) d_157_118 (by decide) rfl ?_ ?_
      · refine zX_aln0 (p := 215) d_157_214 rfl (zX_dup (p := 216) d_157_215 rfl rfl (zX_gi (p := 219) d_157_216 ow_157 gf_10_79 zo_148 rfl (zX_ic (p := 220) d_157_219 ci_1 rfl (zX_add (p := 221) d_157_220 rfl (zX_pi (p := 224) d_157_221 ow_157 gf_10_79 zo_148 rfl (fun M11 => ?_))))))
        refine zX_iln1 (p := 225) d_157_224 rfl (zX_bi (p := 227) d_157_225 cb_59 rfl ?_)
        refine zX_bind (σ := Unit) (β := Int32) (pj := 289) (lj := fun (b : Int32) (s : Unit) => [.val (.ref 148), .val (.int v8), .unset]) (sj := fun b => [.int b]) (mj := fun b => M11) ?_ ?_
        · refine zX_ceq (p1 := 284) (p2 := 230) d_157_227 (by decide) rfl ?_ ?_
          · refine zX_ic (p := 285) d_157_284 ci_1 rfl (zX_goto (p := 289) d_157_285 (by decide) ?_)
            exact zX_leaf (fun _ _ h => h ())
          · refine zX_iln1 (p := 231) d_157_230 rfl (zX_bi (p := 233) d_157_231 cb_43 rfl ?_)
            refine zX_ceq (p1 := 284) (p2 := 236) d_157_233 (by decide) rfl ?_ ?_
            · refine zX_ic (p := 285) d_157_284 ci_1 rfl (zX_goto (p := 289) d_157_285 (by decide) ?_)
              exact zX_leaf (fun _ _ h => h ())
            · refine zX_iln1 (p := 237) d_157_236 rfl (zX_bi (p := 239) d_157_237 cb_45 rfl ?_)
              refine zX_ceq (p1 := 284) (p2 := 242) d_157_239 (by decide) rfl ?_ ?_
              · refine zX_ic (p := 285) d_157_284 ci_1 rfl (zX_goto (p := 289) d_157_285 (by decide) ?_)
                exact zX_leaf (fun _ _ h => h ())
              · refine zX_iln1 (p := 243) d_157_242 rfl (zX_bi (p := 245) d_157_243 cb_42 rfl ?_)
                refine zX_ceq (p1 := 284) (p2 := 248) d_157_245 (by decide) rfl ?_ ?_
                · refine zX_ic (p := 285) d_157_284 ci_1 rfl (zX_goto (p := 289) d_157_285 (by decide) ?_)
                  exact zX_leaf (fun _ _ h => h ())
                · refine zX_iln1 (p := 249) d_157_248 rfl (zX_bi (p := 251) d_157_249 cb_47 rfl ?_)
                  refine zX_ceq (p1 := 284) (p2 := 254) d_157_251 (by decide) rfl ?_ ?_
                  · refine zX_ic (p := 285) d_157_284 ci_1 rfl (zX_goto (p := 289) d_157_285 (by decide) ?_)
                    exact zX_leaf (fun _ _ h => h ())
                  · refine zX_iln1 (p := 255) d_157_254 rfl (zX_bi (p := 257) d_157_255 cb_40 rfl ?_)
                    refine zX_ceq (p1 := 284) (p2 := 260) d_157_257 (by decide) rfl ?_ ?_
                    · refine zX_ic (p := 285) d_157_284 ci_1 rfl (zX_goto (p := 289) d_157_285 (by decide) ?_)
                      exact zX_leaf (fun _ _ h => h ())
                    · refine zX_iln1 (p := 261) d_157_260 rfl (zX_bi (p := 263) d_157_261 cb_41 rfl ?_)
                      refine zX_ceq (p1 := 284) (p2 := 266) d_157_263 (by decide) rfl ?_ ?_
                      · refine zX_ic (p := 285) d_157_284 ci_1 rfl (zX_goto (p := 289) d_157_285 (by decide) ?_)
                        exact zX_leaf (fun _ _ h => h ())
                      · refine zX_iln1 (p := 267) d_157_266 rfl (zX_bi (p := 269) d_157_267 cb_60 rfl ?_)
                        refine zX_ceq (p1 := 284) (p2 := 272) d_157_269 (by decide) rfl ?_ ?_
                        · refine zX_ic (p := 285) d_157_284 ci_1 rfl (zX_goto (p := 289) d_157_285 (by decide) ?_)
                          exact zX_leaf (fun _ _ h => h ())
                        · refine zX_iln1 (p := 273) d_157_272 rfl (zX_bi (p := 275) d_157_273 cb_61 rfl ?_)
                          refine zX_ceq (p1 := 284) (p2 := 278) d_157_275 (by decide) rfl ?_ ?_
                          · refine zX_ic (p := 285) d_157_284 ci_1 rfl (zX_goto (p := 289) d_157_285 (by decide) ?_)
                            exact zX_leaf (fun _ _ h => h ())
                          · refine zX_iln1 (p := 279) d_157_278 rfl (zX_bi (p := 281) d_157_279 cb_62 rfl ?_)
                            refine zX_cne (p1 := 288) (p2 := 284) d_157_281 (by decide) rfl ?_ ?_
                            · refine zX_ic (p := 289) d_157_288 ci_0 rfl ?_
                              exact zX_leaf (fun _ _ h => h ())
                            · refine zX_ic (p := 285) d_157_284 ci_1 rfl (zX_goto (p := 289) d_157_285 (by decide) ?_)
                              exact zX_leaf (fun _ _ h => h ())
        · rintro v12 _
          try dsimp only
          refine zX_isn2 (p := 290) d_157_289 rfl (zX_aln0 (p := 291) d_157_290 rfl (zX_iln2 (p := 292) d_157_291 rfl ?_))
          refine zX_zeq (p1 := 302) (p2 := 295) d_157_292 (by decide) rfl ?_ ?_
          · refine zX_ic (p := 303) d_157_302 ci_1 rfl (zX_pi (p := 306) d_157_303 ow_157 gf_10_166 zo_148 rfl (fun M13 => ?_))
            exact zX_retv d_157_306 rt_157
          · refine zX_bi (p := 297) d_157_295 cb_100 rfl (zX_iln1 (p := 298) d_157_297 rfl (zX_add (p := 299) d_157_298 rfl (zX_goto (p := 303) d_157_299 (by decide) (zX_pi (p := 306) d_157_303 ow_157 gf_10_166 zo_148 rfl (fun M14 => ?_)))))
            exact zX_retv d_157_306 rt_157
      · refine zX_aln0 (p := 122) d_157_121 rfl (zX_ic (p := 123) d_157_122 ci_0 rfl (zX_pi (p := 126) d_157_123 ow_157 gf_10_178 zo_148 rfl (fun M15 => ?_)))
        refine zX_bind (s157_l126 hL zfu M15) ?_
        rintro M23 _
        try dsimp only
        refine zX_aln0 (p := 190) d_157_189 rfl (zX_aln0 (p := 191) d_157_190 rfl (zX_gi (p := 194) d_157_191 ow_157 gf_10_79 zo_148 rfl (zX_aln0 (p := 195) d_157_194 rfl (zX_gi (p := 198) d_157_195 ow_157 gf_10_82 zo_148 rfl (zX_sub (p := 199) d_157_198 rfl (zX_ic (p := 200) d_157_199 ci_5 rfl ?_))))))
        refine zX_cge (p1 := 207) (p2 := 203) d_157_200 (by decide) rfl ?_ ?_
        · refine zX_ic (p := 208) d_157_207 ci_1 rfl (zX_pi (p := 211) d_157_208 ow_157 gf_10_166 zo_148 rfl (fun M24 => ?_))
          refine zX_goto (p := 306) d_157_211 (by decide) ?_
          exact zX_retv d_157_306 rt_157
        · refine zX_ic (p := 204) d_157_203 ci_2 rfl (zX_goto (p := 208) d_157_204 (by decide) (zX_pi (p := 211) d_157_208 ow_157 gf_10_166 zo_148 rfl (fun M25 => ?_)))
          refine zX_goto (p := 306) d_157_211 (by decide) ?_
          exact zX_retv d_157_306 rt_157
    · refine zX_bind (s157_l76 hL zfu M7) ?_
      rintro M30 _
      try dsimp only
      refine zX_aln0 (p := 104) d_157_103 rfl (zX_aln0 (p := 105) d_157_104 rfl (zX_cV0i (p := 108) ⟨ow_160, by decide⟩ zo_148 d_157_105 ow_157 rs_10_172 kk_160 rfl (s160 hL) rfl rfl rfl rfl (fun v31 => ?_)))
      refine zX_pi (p := 111) d_157_108 ow_157 gf_10_166 zo_148 rfl (fun M32 => ?_)
      refine zX_goto (p := 306) d_157_111 (by decide) ?_
      exact zX_retv d_157_306 rt_157
  · refine zX_aln0 (p := 62) d_157_61 rfl (zX_ic (p := 63) d_157_62 ci_0 rfl (zX_pi (p := 66) d_157_63 ow_157 gf_10_166 zo_148 rfl (fun M33 => ?_)))
    refine zX_goto (p := 306) d_157_66 (by decide) ?_
    exact zX_retv d_157_306 rt_157

theorem s170 {q : ZQ} {d : Nat} (hL : zLay q) {a1 : Int32} {M : ZI} : zX q d 170 0 [.val (.ref 148), .val (.int a1)] [] M (f170_bad a1 M) zEm := by
  unfold f170_bad
  refine zX_aln0 (p := 1) d_170_0 rfl (zX_iln1 (p := 2) d_170_1 rfl (zX_pi (p := 5) d_170_2 ow_170 gf_10_181 zo_148 rfl (fun M1 => ?_)))
  refine zX_aln0 (p := 6) d_170_5 rfl (zX_aln0 (p := 7) d_170_6 rfl (zX_gi (p := 10) d_170_7 ow_170 gf_10_82 zo_148 rfl (zX_pi (p := 13) d_170_10 ow_170 gf_10_184 zo_148 rfl (fun M2 => ?_))))
  refine zX_ic (p := 14) d_170_13 ci_0 rfl ?_
  exact zX_retmb d_170_14 rt_170 (Or.inl rfl)

theorem s174 {q : ZQ} {d : Nat} (hL : zLay q) {a1 : Int32} {a2 : Int32} {M : ZI} : zX q d 174 0 [.val (.ref 148), .val (.int a1), .val (.int a2)] [] M (f174_lay a1 a2 M) zEv := by
  unfold f174_lay
  refine zX_aln0 (p := 1) d_174_0 rfl (zX_gr (p := 4) (b := 154) d_174_1 ow_174 gf_10_25 zo_148 (zr_10_7 hL zo_148) rfl (zX_ic (p := 5) d_174_4 ci_2 rfl (zX_aln0 (p := 6) d_174_5 rfl (zX_gi (p := 9) d_174_6 ow_174 gf_10_193 zo_148 rfl (zX_mul (p := 10) d_174_9 rfl (zX_iln1 (p := 11) d_174_10 rfl (zX_itg (p := 12) d_174_11 za_154 rfl (fun M1 => ?_))))))))
  refine zX_aln0 (p := 13) d_174_12 rfl (zX_gr (p := 16) (b := 154) d_174_13 ow_174 gf_10_25 zo_148 (zr_10_7 hL zo_148) rfl (zX_ic (p := 17) d_174_16 ci_2 rfl (zX_aln0 (p := 18) d_174_17 rfl (zX_gi (p := 21) d_174_18 ow_174 gf_10_193 zo_148 rfl (zX_mul (p := 22) d_174_21 rfl (zX_ic (p := 23) d_174_22 ci_1 rfl (zX_add (p := 24) d_174_23 rfl ?_)))))))
  refine zX_iln2 (p := 25) d_174_24 rfl (zX_itg (p := 26) d_174_25 za_154 rfl (fun M2 => ?_))
  refine zX_aln0 (p := 27) d_174_26 rfl (zX_dup (p := 28) d_174_27 rfl rfl (zX_gi (p := 31) d_174_28 ow_174 gf_10_193 zo_148 rfl (zX_ic (p := 32) d_174_31 ci_1 rfl (zX_add (p := 33) d_174_32 rfl (zX_pi (p := 36) d_174_33 ow_174 gf_10_193 zo_148 rfl (fun M3 => ?_))))))
  exact zX_retv d_174_36 rt_174

theorem s173 {q : ZQ} {d : Nat} (hL : zLay q) {M : ZI} : zX q (d + 11) 173 0 [.val (.ref 148), .unset] [] M (f173_unit M) zEm := by
  unfold f173_unit
  refine zX_aln0 (p := 1) d_173_0 rfl (zX_gi (p := 4) d_173_1 ow_173 gf_10_166 zo_148 rfl (zX_bi (p := 6) d_173_4 cb_41 rfl (zX_bi (p := 8) d_173_6 cb_49 rfl (zX_cS3i (p := 11) d_173_8 ow_173 rs_10_53 kk_149 rfl (s149 hL) rfl rfl rfl rfl (fun v1 => ?_)))))
  refine zX_isn1 (p := 12) d_173_11 rfl (zX_aln0 (p := 13) d_173_12 rfl (zX_gi (p := 16) d_173_13 ow_173 gf_10_166 zo_148 rfl (zX_ic (p := 17) d_173_16 ci_2 rfl ?_)))
  refine zX_jn (P := fun g => ∀  (M2 : ZI), zX q (d + 11) 173 30 [.val (.ref 148), .val (.int v1)] [] M2 (g M2) zEm) ?_ (fun j6 hj6 => ?_)
  · intro M2
    try dsimp only
    refine zX_aln0 (p := 31) d_173_30 rfl (zX_iln1 (p := 32) d_173_31 rfl ?_)
    refine zX_bind (σ := Unit) (β := Int32) (pj := 46) (lj := fun (b : Int32) (s : Unit) => [.val (.ref 148), .val (.int v1)]) (sj := fun b => [.int b, .ref 148]) (mj := fun b => M2) ?_ ?_
    · refine zX_zeq (p1 := 45) (p2 := 35) d_173_32 (by decide) rfl ?_ ?_
      · refine zX_ic (p := 46) d_173_45 ci_0 rfl ?_
        exact zX_leaf (fun _ _ h => h ())
      · refine zX_aln0 (p := 36) d_173_35 rfl (zX_gi (p := 39) d_173_36 ow_173 gf_10_166 zo_148 rfl (zX_bi (p := 41) d_173_39 cb_40 rfl (zX_sub (p := 42) d_173_41 rfl (zX_goto (p := 46) d_173_42 (by decide) ?_))))
        exact zX_leaf (fun _ _ h => h ())
    · rintro v3 _
      try dsimp only
      refine zX_aln0 (p := 47) d_173_46 rfl (zX_gi (p := 50) d_173_47 ow_173 gf_10_178 zo_148 rfl (zX_cV2v (p := 53) ⟨ow_174, by decide⟩ zo_148 d_173_50 ow_173 rs_10_203 kk_174 rfl (s174 hL) rfl rfl rfl rfl (fun M4 => ?_)))
      refine zX_aln0 (p := 54) d_173_53 rfl (zX_cV0v (p := 57) ⟨ow_157, by decide⟩ zo_148 d_173_54 ow_173 rs_10_190 kk_157 rfl (s157 hL) rfl rfl rfl rfl (fun M5 => ?_))
      refine zX_ic (p := 58) d_173_57 ci_1 rfl ?_
      exact zX_retmb d_173_58 rt_173 (Or.inr rfl)
  · refine zX_ceq (p1 := 30) (p2 := 20) d_173_17 (by decide) rfl ?_ ?_
    · exact hj6 M
    · refine zX_iln1 (p := 21) d_173_20 rfl ?_
      refine zX_zne (p1 := 30) (p2 := 24) d_173_21 (by decide) rfl ?_ ?_
      · exact hj6 M
      · refine zX_aln0 (p := 25) d_173_24 rfl (zX_ic (p := 26) d_173_25 ci_1 rfl (zX_cV1m (p := 29) ⟨ow_170, by decide⟩ zo_148 d_173_26 ow_173 rs_10_187 kk_170 rfl (s170 hL) rfl rfl rfl rfl (fun v7 M8 => ?_)))
        try dsimp only
        exact zX_retmg d_173_29 rt_173

theorem s172_l9 {q : ZQ} {d : Nat} (hL : zLay q)  : ∀ (n : Nat) (M5 : ZI) (s3 : Slot) (s4 : Slot), zX q (d + 12) 172 9 [.val (.ref 148), s3, s4] [] M5 (f172_l9 n M5) zEm := by
  intro n
  induction n with
  | zero => intros; exact zX_none
  | succ n ih =>
    intro M5 s3 s4
    rw [f172_l9]
    refine zX_aln0 (p := 10) d_172_9 rfl (zX_gi (p := 13) d_172_10 ow_172 gf_10_166 zo_148 rfl (zX_si (p := 16) d_172_13 cs_142 rfl ?_))
    refine zX_jn (P := fun g => ∀ (_ : Unit), zX q (d + 12) 172 29 [.val (.ref 148), s3, s4] [] M5 (g ()) zEm) ?_ (fun j18 hj18 => ?_)
    · intro _
      try dsimp only
      refine zX_aln0 (p := 30) d_172_29 rfl (zX_gi (p := 33) d_172_30 ow_172 gf_10_166 zo_148 rfl (zX_si (p := 36) d_172_33 cs_147 rfl ?_))
      refine zX_bind (σ := Unit) (β := Int32) (pj := 44) (lj := fun (b : Int32) (s : Unit) => [.val (.ref 148), s3, s4]) (sj := fun b => [.int b]) (mj := fun b => M5) ?_ ?_
      · refine zX_cne (p1 := 43) (p2 := 39) d_172_36 (by decide) rfl ?_ ?_
        · refine zX_ic (p := 44) d_172_43 ci_0 rfl ?_
          exact zX_leaf (fun _ _ h => h ())
        · refine zX_ic (p := 40) d_172_39 ci_1 rfl (zX_goto (p := 44) d_172_40 (by decide) ?_)
          exact zX_leaf (fun _ _ h => h ())
      · rintro v6 _
        try dsimp only
        refine zX_isn1 (p := 45) d_172_44 rfl (zX_aln0 (p := 46) d_172_45 rfl (zX_cV0v (p := 49) ⟨ow_157, by decide⟩ zo_148 d_172_46 ow_172 rs_10_190 kk_157 rfl (s157 hL) rfl rfl rfl rfl (fun M7 => ?_)))
        refine zX_iln1 (p := 50) d_172_49 rfl ?_
        refine zX_zeq (p1 := 96) (p2 := 53) d_172_50 (by decide) rfl ?_ ?_
        · refine zX_aln0 (p := 97) d_172_96 rfl (zX_cV0m (p := 100) ⟨ow_173, by decide⟩ zo_148 d_172_97 ow_172 rs_10_207 kk_173 rfl (s173 hL) rfl rfl rfl rfl (fun v8 M9 => ?_))
          try dsimp only
          refine zX_zne (p1 := 105) (p2 := 103) d_172_100 (by decide) rfl ?_ ?_
          · refine zX_aln0 (p := 106) d_172_105 rfl (zX_bi (p := 108) d_172_106 cb_25 rfl (zX_ic (p := 109) d_172_108 ci_0 rfl (zX_cV2v (p := 112) ⟨ow_174, by decide⟩ zo_148 d_172_109 ow_172 rs_10_203 kk_174 rfl (s174 hL) rfl rfl rfl rfl (fun M10 => ?_))))
            refine zX_goto (p := 9) d_172_112 (by decide) ?_
            exact ih M10 (.val (.int v6)) (s4)
          · refine zX_ic (p := 104) d_172_103 ci_0 rfl ?_
            exact zX_retmb d_172_104 rt_172 (Or.inl rfl)
        · refine zX_aln0 (p := 54) d_172_53 rfl (zX_gi (p := 57) d_172_54 ow_172 gf_10_178 zo_148 rfl (zX_jsn2 (p := 58) d_172_57 rfl (fun x11 => ?_)))
          refine zX_aln0 (p := 59) d_172_58 rfl (zX_gi (p := 62) d_172_59 ow_172 gf_10_166 zo_148 rfl (zX_ic (p := 63) d_172_62 ci_2 rfl ?_))
          refine zX_ceq (p1 := 72) (p2 := 66) d_172_63 (by decide) rfl ?_ ?_
          · refine zX_iln2 (p := 73) d_172_72 rfl ?_
            refine zX_zne (p1 := 82) (p2 := 76) d_172_73 (by decide) rfl ?_ ?_
            · refine zX_aln0 (p := 83) d_172_82 rfl (zX_cV0v (p := 86) ⟨ow_157, by decide⟩ zo_148 d_172_83 ow_172 rs_10_190 kk_157 rfl (s157 hL) rfl rfl rfl rfl (fun M12 => ?_))
              refine zX_aln0 (p := 87) d_172_86 rfl (zX_bi (p := 89) d_172_87 cb_26 rfl (zX_iln2 (p := 90) d_172_89 rfl (zX_cV2v (p := 93) ⟨ow_174, by decide⟩ zo_148 d_172_90 ow_172 rs_10_203 kk_174 rfl (s174 hL) rfl rfl rfl rfl (fun M13 => ?_))))
              refine zX_goto (p := 112) d_172_93 (by decide) (zX_goto (p := 9) d_172_112 (by decide) ?_)
              exact ih M13 (.val (.int v6)) (.val (.int x11))
            · refine zX_aln0 (p := 77) d_172_76 rfl (zX_ic (p := 78) d_172_77 ci_2 rfl (zX_cV1m (p := 81) ⟨ow_170, by decide⟩ zo_148 d_172_78 ow_172 rs_10_187 kk_170 rfl (s170 hL) rfl rfl rfl rfl (fun v14 M15 => ?_)))
              try dsimp only
              exact zX_retmg d_172_81 rt_172
          · refine zX_aln0 (p := 67) d_172_66 rfl (zX_ic (p := 68) d_172_67 ci_1 rfl (zX_cV1m (p := 71) ⟨ow_170, by decide⟩ zo_148 d_172_68 ow_172 rs_10_187 kk_170 rfl (s170 hL) rfl rfl rfl rfl (fun v16 M17 => ?_)))
            try dsimp only
            exact zX_retmg d_172_71 rt_172
    · refine zX_ceq (p1 := 29) (p2 := 19) d_172_16 (by decide) rfl ?_ ?_
      · exact hj18 ()
      · refine zX_aln0 (p := 20) d_172_19 rfl (zX_gi (p := 23) d_172_20 ow_172 gf_10_166 zo_148 rfl (zX_si (p := 26) d_172_23 cs_147 rfl ?_))
        refine zX_cne (p1 := 115) (p2 := 29) d_172_26 (by decide) rfl ?_ ?_
        · refine zX_ic (p := 116) d_172_115 ci_1 rfl ?_
          exact zX_retmb d_172_116 rt_172 (Or.inr rfl)
        · exact hj18 ()

theorem s172 {q : ZQ} {d : Nat} (hL : zLay q) {M : ZI} : zX q (d + 12) 172 0 [.val (.ref 148), .unset, .unset] [] M (f172_product M) zEm := by
  unfold f172_product
  refine zX_aln0 (p := 1) d_172_0 rfl (zX_cV0m (p := 4) ⟨ow_173, by decide⟩ zo_148 d_172_1 ow_172 rs_10_207 kk_173 rfl (s173 hL) rfl rfl rfl rfl (fun v1 M2 => ?_))
  try dsimp only
  refine zX_zne (p1 := 9) (p2 := 7) d_172_4 (by decide) rfl ?_ ?_
  · exact s172_l9 hL zfu M2 (.unset) (.unset)
  · refine zX_ic (p := 8) d_172_7 ci_0 rfl ?_
    exact zX_retmb d_172_8 rt_172 (Or.inl rfl)

theorem s171_l9 {q : ZQ} {d : Nat} (hL : zLay q)  : ∀ (n : Nat) (M4 : ZI) (s3 : Slot), zX q (d + 13) 171 9 [.val (.ref 148), s3] [] M4 (f171_l9 n M4) zEm := by
  intro n
  induction n with
  | zero => intros; exact zX_none
  | succ n ih =>
    intro M4 s3
    rw [f171_l9]
    refine zX_aln0 (p := 10) d_171_9 rfl (zX_gi (p := 13) d_171_10 ow_171 gf_10_166 zo_148 rfl (zX_si (p := 16) d_171_13 cs_143 rfl ?_))
    refine zX_jn (P := fun g => ∀ (_ : Unit), zX q (d + 13) 171 29 [.val (.ref 148), s3] [] M4 (g ()) zEm) ?_ (fun j10 hj10 => ?_)
    · intro _
      try dsimp only
      refine zX_aln0 (p := 30) d_171_29 rfl (zX_gi (p := 33) d_171_30 ow_171 gf_10_166 zo_148 rfl (zX_si (p := 36) d_171_33 cs_143 rfl ?_))
      refine zX_bind (σ := Unit) (β := Int32) (pj := 46) (lj := fun (b : Int32) (s : Unit) => [.val (.ref 148), s3]) (sj := fun b => [.int b]) (mj := fun b => M4) ?_ ?_
      · refine zX_cne (p1 := 44) (p2 := 39) d_171_36 (by decide) rfl ?_ ?_
        · refine zX_bi (p := 46) d_171_44 cb_24 rfl ?_
          exact zX_leaf (fun _ _ h => h ())
        · refine zX_bi (p := 41) d_171_39 cb_23 rfl (zX_goto (p := 46) d_171_41 (by decide) ?_)
          exact zX_leaf (fun _ _ h => h ())
      · rintro v5 _
        try dsimp only
        refine zX_isn1 (p := 47) d_171_46 rfl (zX_aln0 (p := 48) d_171_47 rfl (zX_cV0v (p := 51) ⟨ow_157, by decide⟩ zo_148 d_171_48 ow_171 rs_10_190 kk_157 rfl (s157 hL) rfl rfl rfl rfl (fun M6 => ?_)))
        refine zX_aln0 (p := 52) d_171_51 rfl (zX_cV0m (p := 55) ⟨ow_172, by decide⟩ zo_148 d_171_52 ow_171 rs_10_199 kk_172 rfl (s172 hL) rfl rfl rfl rfl (fun v7 M8 => ?_))
        try dsimp only
        refine zX_zne (p1 := 60) (p2 := 58) d_171_55 (by decide) rfl ?_ ?_
        · refine zX_aln0 (p := 61) d_171_60 rfl (zX_iln1 (p := 62) d_171_61 rfl (zX_ic (p := 63) d_171_62 ci_0 rfl (zX_cV2v (p := 66) ⟨ow_174, by decide⟩ zo_148 d_171_63 ow_171 rs_10_203 kk_174 rfl (s174 hL) rfl rfl rfl rfl (fun M9 => ?_))))
          refine zX_goto (p := 9) d_171_66 (by decide) ?_
          exact ih M9 (.val (.int v5))
        · refine zX_ic (p := 59) d_171_58 ci_0 rfl ?_
          exact zX_retmb d_171_59 rt_171 (Or.inl rfl)
    · refine zX_ceq (p1 := 29) (p2 := 19) d_171_16 (by decide) rfl ?_ ?_
      · exact hj10 ()
      · refine zX_aln0 (p := 20) d_171_19 rfl (zX_gi (p := 23) d_171_20 ow_171 gf_10_166 zo_148 rfl (zX_si (p := 26) d_171_23 cs_145 rfl ?_))
        refine zX_cne (p1 := 69) (p2 := 29) d_171_26 (by decide) rfl ?_ ?_
        · refine zX_ic (p := 70) d_171_69 ci_1 rfl ?_
          exact zX_retmb d_171_70 rt_171 (Or.inr rfl)
        · exact hj10 ()

theorem s171 {q : ZQ} {d : Nat} (hL : zLay q) {M : ZI} : zX q (d + 13) 171 0 [.val (.ref 148), .unset] [] M (f171_sumUp M) zEm := by
  unfold f171_sumUp
  refine zX_aln0 (p := 1) d_171_0 rfl (zX_cV0m (p := 4) ⟨ow_172, by decide⟩ zo_148 d_171_1 ow_171 rs_10_199 kk_172 rfl (s172 hL) rfl rfl rfl rfl (fun v1 M2 => ?_))
  try dsimp only
  refine zX_zne (p1 := 9) (p2 := 7) d_171_4 (by decide) rfl ?_ ?_
  · exact s171_l9 hL zfu M2 (.unset)
  · refine zX_ic (p := 8) d_171_7 ci_0 rfl ?_
    exact zX_retmb d_171_8 rt_171 (Or.inl rfl)

theorem s178 {q : ZQ} {d : Nat} (hL : zLay q) {M : ZI} : zX q (d + 11) 178 0 [.val (.ref 148)] [] M (f178_opens M) zEm := by
  unfold f178_opens
  refine zX_aln0 (p := 1) d_178_0 rfl (zX_gi (p := 4) d_178_1 ow_178 gf_10_196 zo_148 rfl (zX_bi (p := 6) d_178_4 cb_8 rfl ?_))
  refine zX_cne (p1 := 15) (p2 := 9) d_178_6 (by decide) rfl ?_ ?_
  · refine zX_aln0 (p := 16) d_178_15 rfl (zX_dup (p := 17) d_178_16 rfl rfl (zX_gi (p := 20) d_178_17 ow_178 gf_10_196 zo_148 rfl (zX_ic (p := 21) d_178_20 ci_1 rfl (zX_add (p := 22) d_178_21 rfl (zX_pi (p := 25) d_178_22 ow_178 gf_10_196 zo_148 rfl (fun M1 => ?_))))))
    refine zX_aln0 (p := 26) d_178_25 rfl (zX_cV0v (p := 29) ⟨ow_157, by decide⟩ zo_148 d_178_26 ow_178 rs_10_190 kk_157 rfl (s157 hL) rfl rfl rfl rfl (fun M2 => ?_))
    refine zX_ic (p := 30) d_178_29 ci_1 rfl ?_
    exact zX_retmb d_178_30 rt_178 (Or.inr rfl)
  · refine zX_aln0 (p := 10) d_178_9 rfl (zX_ic (p := 11) d_178_10 ci_3 rfl (zX_cV1m (p := 14) ⟨ow_170, by decide⟩ zo_148 d_178_11 ow_178 rs_10_187 kk_170 rfl (s170 hL) rfl rfl rfl rfl (fun v3 M4 => ?_)))
    try dsimp only
    exact zX_retmg d_178_14 rt_178

theorem s179 {q : ZQ} {d : Nat} (hL : zLay q) {a1 : Int32} {M : ZI} : zX q (d + 11) 179 0 [.val (.ref 148), .val (.int a1)] [] M (f179_need a1 M) zEm := by
  unfold f179_need
  refine zX_aln0 (p := 1) d_179_0 rfl (zX_gi (p := 4) d_179_1 ow_179 gf_10_166 zo_148 rfl (zX_iln1 (p := 5) d_179_4 rfl ?_))
  refine zX_ceq (p1 := 14) (p2 := 8) d_179_5 (by decide) rfl ?_ ?_
  · refine zX_aln0 (p := 15) d_179_14 rfl (zX_cV0v (p := 18) ⟨ow_157, by decide⟩ zo_148 d_179_15 ow_179 rs_10_190 kk_157 rfl (s157 hL) rfl rfl rfl rfl (fun M1 => ?_))
    refine zX_ic (p := 19) d_179_18 ci_1 rfl ?_
    exact zX_retmb d_179_19 rt_179 (Or.inr rfl)
  · refine zX_aln0 (p := 9) d_179_8 rfl (zX_ic (p := 10) d_179_9 ci_1 rfl (zX_cV1m (p := 13) ⟨ow_170, by decide⟩ zo_148 d_179_10 ow_179 rs_10_187 kk_170 rfl (s170 hL) rfl rfl rfl rfl (fun v2 M3 => ?_)))
    try dsimp only
    exact zX_retmg d_179_13 rt_179

theorem s177_b {q : ZQ} {d : Nat} (hL : zLay q) {g175 : ZI → Option (Int32 × ZI)} {g177 : ZI → Option (Int32 × ZI)} (h175 : ∀ {M : ZI}, zX q (d + 14) 175 0 [.val (.ref 148)] [] M (g175 M) zEm) (h177 : ∀ {M : ZI}, zX q (d + 14) 177 0 [.val (.ref 148), .unset] [] M (g177 M) zEm) {M : ZI} : zX q (d + 15) 177 0 [.val (.ref 148), .unset] [] M (f177_oneTest_b g175 g177 M) zEm := by
  unfold f177_oneTest_b
  refine zX_aln0 (p := 1) d_177_0 rfl (zX_gi (p := 4) d_177_1 ow_177 gf_10_166 zo_148 rfl (zX_bi (p := 6) d_177_4 cb_6 rfl ?_))
  refine zX_cne (p1 := 44) (p2 := 9) d_177_6 (by decide) rfl ?_ ?_
  · refine zX_aln0 (p := 45) d_177_44 rfl (zX_gi (p := 48) d_177_45 ow_177 gf_10_166 zo_148 rfl (zX_si (p := 51) d_177_48 cs_140 rfl ?_))
    refine zX_cne (p1 := 92) (p2 := 54) d_177_51 (by decide) rfl ?_ ?_
    · refine zX_aln0 (p := 93) d_177_92 rfl (zX_cV0m (p := 96) ⟨ow_171, by decide⟩ zo_148 d_177_93 ow_177 rs_10_224 kk_171 rfl (s171 hL) rfl rfl rfl rfl (fun v1 M2 => ?_))
      try dsimp only
      refine zX_zne (p1 := 101) (p2 := 99) d_177_96 (by decide) rfl ?_ ?_
      · refine zX_aln0 (p := 102) d_177_101 rfl (zX_gi (p := 105) d_177_102 ow_177 gf_10_166 zo_148 rfl (zX_si (p := 108) d_177_105 cs_160 rfl ?_))
        refine zX_bind (σ := Unit) (β := Int32) (pj := 147) (lj := fun (b : Int32) (s : Unit) => [.val (.ref 148), .unset]) (sj := fun b => [.int b]) (mj := fun b => M2) ?_ ?_
        · refine zX_cne (p1 := 116) (p2 := 111) d_177_108 (by decide) rfl ?_ ?_
          · refine zX_aln0 (p := 117) d_177_116 rfl (zX_gi (p := 120) d_177_117 ow_177 gf_10_166 zo_148 rfl (zX_si (p := 123) d_177_120 cs_161 rfl ?_))
            refine zX_cne (p1 := 131) (p2 := 126) d_177_123 (by decide) rfl ?_ ?_
            · refine zX_aln0 (p := 132) d_177_131 rfl (zX_gi (p := 135) d_177_132 ow_177 gf_10_166 zo_148 rfl (zX_si (p := 138) d_177_135 cs_162 rfl ?_))
              refine zX_cne (p1 := 146) (p2 := 141) d_177_138 (by decide) rfl ?_ ?_
              · refine zX_ic (p := 147) d_177_146 ci_m1 rfl ?_
                exact zX_leaf (fun _ _ h => h ())
              · refine zX_bi (p := 143) d_177_141 cb_29 rfl (zX_goto (p := 147) d_177_143 (by decide) ?_)
                exact zX_leaf (fun _ _ h => h ())
            · refine zX_bi (p := 128) d_177_126 cb_28 rfl (zX_goto (p := 147) d_177_128 (by decide) ?_)
              exact zX_leaf (fun _ _ h => h ())
          · refine zX_bi (p := 113) d_177_111 cb_27 rfl (zX_goto (p := 147) d_177_113 (by decide) ?_)
            exact zX_leaf (fun _ _ h => h ())
        · rintro v3 _
          try dsimp only
          refine zX_isn1 (p := 148) d_177_147 rfl (zX_iln1 (p := 149) d_177_148 rfl (zX_ic (p := 150) d_177_149 ci_m1 rfl ?_))
          refine zX_cne (p1 := 159) (p2 := 153) d_177_150 (by decide) rfl ?_ ?_
          · refine zX_aln0 (p := 160) d_177_159 rfl (zX_cV0v (p := 163) ⟨ow_157, by decide⟩ zo_148 d_177_160 ow_177 rs_10_190 kk_157 rfl (s157 hL) rfl rfl rfl rfl (fun M4 => ?_))
            refine zX_aln0 (p := 164) d_177_163 rfl (zX_cV0m (p := 167) ⟨ow_171, by decide⟩ zo_148 d_177_164 ow_177 rs_10_224 kk_171 rfl (s171 hL) rfl rfl rfl rfl (fun v5 M6 => ?_))
            try dsimp only
            refine zX_zne (p1 := 172) (p2 := 170) d_177_167 (by decide) rfl ?_ ?_
            · refine zX_aln0 (p := 173) d_177_172 rfl (zX_iln1 (p := 174) d_177_173 rfl (zX_ic (p := 175) d_177_174 ci_0 rfl (zX_cV2v (p := 178) ⟨ow_174, by decide⟩ zo_148 d_177_175 ow_177 rs_10_203 kk_174 rfl (s174 hL) rfl rfl rfl rfl (fun M7 => ?_))))
              refine zX_ic (p := 179) d_177_178 ci_1 rfl ?_
              exact zX_retmb d_177_179 rt_177 (Or.inr rfl)
            · refine zX_ic (p := 171) d_177_170 ci_0 rfl ?_
              exact zX_retmb d_177_171 rt_177 (Or.inl rfl)
          · refine zX_aln0 (p := 154) d_177_153 rfl (zX_ic (p := 155) d_177_154 ci_1 rfl (zX_cV1m (p := 158) ⟨ow_170, by decide⟩ zo_148 d_177_155 ow_177 rs_10_187 kk_170 rfl (s170 hL) rfl rfl rfl rfl (fun v8 M9 => ?_)))
            try dsimp only
            exact zX_retmg d_177_158 rt_177
      · refine zX_ic (p := 100) d_177_99 ci_0 rfl ?_
        exact zX_retmb d_177_100 rt_177 (Or.inl rfl)
    · refine zX_aln0 (p := 55) d_177_54 rfl (zX_cV0m (p := 58) ⟨ow_178, by decide⟩ zo_148 d_177_55 ow_177 rs_10_216 kk_178 rfl (s178 hL) rfl rfl rfl rfl (fun v10 M11 => ?_))
      try dsimp only
      refine zX_zeq (p1 := 78) (p2 := 61) d_177_58 (by decide) rfl ?_ ?_
      · refine zX_ic (p := 79) d_177_78 ci_0 rfl ?_
        exact zX_retmb d_177_79 rt_177 (Or.inl rfl)
      · refine zX_aln0 (p := 62) d_177_61 rfl (zX_cV0m (p := 65) ⟨ow_175, by decide⟩ zo_148 d_177_62 ow_177 rs_10_219 kk_175 rfl (h175) rfl rfl rfl rfl (fun v12 M13 => ?_))
        try dsimp only
        refine zX_zeq (p1 := 78) (p2 := 68) d_177_65 (by decide) rfl ?_ ?_
        · refine zX_ic (p := 79) d_177_78 ci_0 rfl ?_
          exact zX_retmb d_177_79 rt_177 (Or.inl rfl)
        · refine zX_aln0 (p := 69) d_177_68 rfl (zX_si (p := 72) d_177_69 cs_141 rfl (zX_cV1m (p := 75) ⟨ow_179, by decide⟩ zo_148 d_177_72 ow_177 rs_10_222 kk_179 rfl (s179 hL) rfl rfl rfl rfl (fun v14 M15 => ?_)))
          try dsimp only
          refine zX_zne (p1 := 80) (p2 := 78) d_177_75 (by decide) rfl ?_ ?_
          · refine zX_aln0 (p := 81) d_177_80 rfl (zX_dup (p := 82) d_177_81 rfl rfl (zX_gi (p := 85) d_177_82 ow_177 gf_10_196 zo_148 rfl (zX_ic (p := 86) d_177_85 ci_1 rfl (zX_sub (p := 87) d_177_86 rfl (zX_pi (p := 90) d_177_87 ow_177 gf_10_196 zo_148 rfl (fun M16 => ?_))))))
            refine zX_ic (p := 91) d_177_90 ci_1 rfl ?_
            exact zX_retmb d_177_91 rt_177 (Or.inr rfl)
          · refine zX_ic (p := 79) d_177_78 ci_0 rfl ?_
            exact zX_retmb d_177_79 rt_177 (Or.inl rfl)
  · refine zX_aln0 (p := 10) d_177_9 rfl (zX_cV0m (p := 13) ⟨ow_178, by decide⟩ zo_148 d_177_10 ow_177 rs_10_216 kk_178 rfl (s178 hL) rfl rfl rfl rfl (fun v17 M18 => ?_))
    try dsimp only
    refine zX_zeq (p1 := 23) (p2 := 16) d_177_13 (by decide) rfl ?_ ?_
    · refine zX_ic (p := 24) d_177_23 ci_0 rfl ?_
      exact zX_retmb d_177_24 rt_177 (Or.inl rfl)
    · refine zX_aln0 (p := 17) d_177_16 rfl (zX_cV0m (p := 20) ⟨ow_177, by decide⟩ zo_148 d_177_17 ow_177 rs_10_213 kk_177 rfl (h177) rfl rfl rfl rfl (fun v19 M20 => ?_))
      try dsimp only
      refine zX_zne (p1 := 25) (p2 := 23) d_177_20 (by decide) rfl ?_ ?_
      · refine zX_aln0 (p := 26) d_177_25 rfl (zX_dup (p := 27) d_177_26 rfl rfl (zX_gi (p := 30) d_177_27 ow_177 gf_10_196 zo_148 rfl (zX_ic (p := 31) d_177_30 ci_1 rfl (zX_sub (p := 32) d_177_31 rfl (zX_pi (p := 35) d_177_32 ow_177 gf_10_196 zo_148 rfl (fun M21 => ?_))))))
        refine zX_aln0 (p := 36) d_177_35 rfl (zX_bi (p := 38) d_177_36 cb_30 rfl (zX_ic (p := 39) d_177_38 ci_0 rfl (zX_cV2v (p := 42) ⟨ow_174, by decide⟩ zo_148 d_177_39 ow_177 rs_10_203 kk_174 rfl (s174 hL) rfl rfl rfl rfl (fun M22 => ?_))))
        refine zX_ic (p := 43) d_177_42 ci_1 rfl ?_
        exact zX_retmb d_177_43 rt_177 (Or.inr rfl)
      · refine zX_ic (p := 24) d_177_23 ci_0 rfl ?_
        exact zX_retmb d_177_24 rt_177 (Or.inl rfl)

theorem s176_l9 {q : ZQ} {d : Nat} (hL : zLay q) {g177 : ZI → Option (Int32 × ZI)} (h177 : ∀ {M : ZI}, zX q (d + 14) 177 0 [.val (.ref 148), .unset] [] M (g177 M) zEm)  : ∀ (n : Nat) (M3 : ZI), zX q (d + 15) 176 9 [.val (.ref 148)] [] M3 (f176_l9 g177 n M3) zEm := by
  intro n
  induction n with
  | zero => intros; exact zX_none
  | succ n ih =>
    intro M3
    rw [f176_l9]
    refine zX_aln0 (p := 10) d_176_9 rfl (zX_gi (p := 13) d_176_10 ow_176 gf_10_166 zo_148 rfl (zX_ic (p := 14) d_176_13 ci_5 rfl ?_))
    refine zX_cne (p1 := 40) (p2 := 17) d_176_14 (by decide) rfl ?_ ?_
    · refine zX_ic (p := 41) d_176_40 ci_1 rfl ?_
      exact zX_retmb d_176_41 rt_176 (Or.inr rfl)
    · refine zX_aln0 (p := 18) d_176_17 rfl (zX_cV0v (p := 21) ⟨ow_157, by decide⟩ zo_148 d_176_18 ow_176 rs_10_190 kk_157 rfl (s157 hL) rfl rfl rfl rfl (fun M4 => ?_))
      refine zX_aln0 (p := 22) d_176_21 rfl (zX_cV0m (p := 25) ⟨ow_177, by decide⟩ zo_148 d_176_22 ow_176 rs_10_213 kk_177 rfl (h177) rfl rfl rfl rfl (fun v5 M6 => ?_))
      try dsimp only
      refine zX_zne (p1 := 30) (p2 := 28) d_176_25 (by decide) rfl ?_ ?_
      · refine zX_aln0 (p := 31) d_176_30 rfl (zX_bi (p := 33) d_176_31 cb_31 rfl (zX_ic (p := 34) d_176_33 ci_0 rfl (zX_cV2v (p := 37) ⟨ow_174, by decide⟩ zo_148 d_176_34 ow_176 rs_10_203 kk_174 rfl (s174 hL) rfl rfl rfl rfl (fun M7 => ?_))))
        refine zX_goto (p := 9) d_176_37 (by decide) ?_
        exact ih M7
      · refine zX_ic (p := 29) d_176_28 ci_0 rfl ?_
        exact zX_retmb d_176_29 rt_176 (Or.inl rfl)

theorem s176_b {q : ZQ} {d : Nat} (hL : zLay q) {g177 : ZI → Option (Int32 × ZI)} (h177 : ∀ {M : ZI}, zX q (d + 14) 177 0 [.val (.ref 148), .unset] [] M (g177 M) zEm) {M : ZI} : zX q (d + 15) 176 0 [.val (.ref 148)] [] M (f176_every_b g177 M) zEm := by
  unfold f176_every_b
  refine zX_aln0 (p := 1) d_176_0 rfl (zX_cV0m (p := 4) ⟨ow_177, by decide⟩ zo_148 d_176_1 ow_176 rs_10_213 kk_177 rfl (h177) rfl rfl rfl rfl (fun v1 M2 => ?_))
  try dsimp only
  refine zX_zne (p1 := 9) (p2 := 7) d_176_4 (by decide) rfl ?_ ?_
  · exact s176_l9 hL h177 zfu M2
  · refine zX_ic (p := 8) d_176_7 ci_0 rfl ?_
    exact zX_retmb d_176_8 rt_176 (Or.inl rfl)

theorem s175_l9 {q : ZQ} {d : Nat} (hL : zLay q) {g176 : ZI → Option (Int32 × ZI)} (h176 : ∀ {M : ZI}, zX q (d + 14) 176 0 [.val (.ref 148)] [] M (g176 M) zEm)  : ∀ (n : Nat) (M3 : ZI), zX q (d + 15) 175 9 [.val (.ref 148)] [] M3 (f175_l9 g176 n M3) zEm := by
  intro n
  induction n with
  | zero => intros; exact zX_none
  | succ n ih =>
    intro M3
    rw [f175_l9]
    refine zX_aln0 (p := 10) d_175_9 rfl (zX_gi (p := 13) d_175_10 ow_175 gf_10_166 zo_148 rfl (zX_ic (p := 14) d_175_13 ci_4 rfl ?_))
    refine zX_cne (p1 := 40) (p2 := 17) d_175_14 (by decide) rfl ?_ ?_
    · refine zX_ic (p := 41) d_175_40 ci_1 rfl ?_
      exact zX_retmb d_175_41 rt_175 (Or.inr rfl)
    · refine zX_aln0 (p := 18) d_175_17 rfl (zX_cV0v (p := 21) ⟨ow_157, by decide⟩ zo_148 d_175_18 ow_175 rs_10_190 kk_157 rfl (s157 hL) rfl rfl rfl rfl (fun M4 => ?_))
      refine zX_aln0 (p := 22) d_175_21 rfl (zX_cV0m (p := 25) ⟨ow_176, by decide⟩ zo_148 d_175_22 ow_175 rs_10_210 kk_176 rfl (h176) rfl rfl rfl rfl (fun v5 M6 => ?_))
      try dsimp only
      refine zX_zne (p1 := 30) (p2 := 28) d_175_25 (by decide) rfl ?_ ?_
      · refine zX_aln0 (p := 31) d_175_30 rfl (zX_bi (p := 33) d_175_31 cb_32 rfl (zX_ic (p := 34) d_175_33 ci_0 rfl (zX_cV2v (p := 37) ⟨ow_174, by decide⟩ zo_148 d_175_34 ow_175 rs_10_203 kk_174 rfl (s174 hL) rfl rfl rfl rfl (fun M7 => ?_))))
        refine zX_goto (p := 9) d_175_37 (by decide) ?_
        exact ih M7
      · refine zX_ic (p := 29) d_175_28 ci_0 rfl ?_
        exact zX_retmb d_175_29 rt_175 (Or.inl rfl)

theorem s175_b {q : ZQ} {d : Nat} (hL : zLay q) {g176 : ZI → Option (Int32 × ZI)} (h176 : ∀ {M : ZI}, zX q (d + 14) 176 0 [.val (.ref 148)] [] M (g176 M) zEm) {M : ZI} : zX q (d + 15) 175 0 [.val (.ref 148)] [] M (f175_any_b g176 M) zEm := by
  unfold f175_any_b
  refine zX_aln0 (p := 1) d_175_0 rfl (zX_cV0m (p := 4) ⟨ow_176, by decide⟩ zo_148 d_175_1 ow_175 rs_10_210 kk_176 rfl (h176) rfl rfl rfl rfl (fun v1 M2 => ?_))
  try dsimp only
  refine zX_zne (p1 := 9) (p2 := 7) d_175_4 (by decide) rfl ?_ ?_
  · exact s175_l9 hL h176 zfu M2
  · refine zX_ic (p := 8) d_175_7 ci_0 rfl ?_
    exact zX_retmb d_175_8 rt_175 (Or.inl rfl)

theorem sgB {q : ZQ} {d : Nat} (hL : zLay q) : ∀ f : Nat, (∀ {M : ZI}, zX q (d + 14 + f) 177 0 [.val (.ref 148), .unset] [] M (f177_oneTest f M) zEm) ∧ (∀ {M : ZI}, zX q (d + 14 + f) 176 0 [.val (.ref 148)] [] M (f176_every f M) zEm) ∧ (∀ {M : ZI}, zX q (d + 14 + f) 175 0 [.val (.ref 148)] [] M (f175_any f M) zEm) := by
  intro f
  induction f with
  | zero => exact ⟨by intros; exact zX_none, by intros; exact zX_none, by intros; exact zX_none⟩
  | succ f ih =>
    exact ⟨by intro M; rw [show d + 14 + (f + 1) = d + f + 15 from by omega, fe177]; exact s177_b (d := d + f) (hL := hL) (g175 := f175_any f) (g177 := f177_oneTest f) (h175 := by intro M; rw [show d + f + 14 = d + 14 + f from by omega]; exact ih.2.2) (h177 := by intro M; rw [show d + f + 14 = d + 14 + f from by omega]; exact ih.1),
      by intro M; rw [show d + 14 + (f + 1) = d + f + 15 from by omega, fe176]; exact s176_b (d := d + f) (hL := hL) (g177 := f177_oneTest f) (h177 := by intro M; rw [show d + f + 14 = d + 14 + f from by omega]; exact ih.1),
      by intro M; rw [show d + 14 + (f + 1) = d + f + 15 from by omega, fe175]; exact s175_b (d := d + f) (hL := hL) (g176 := f176_every f) (h176 := by intro M; rw [show d + f + 14 = d + 14 + f from by omega]; exact ih.2.1)⟩
theorem s177 {q : ZQ} {d : Nat} (hL : zLay q) {M : ZI} : zX q (d + 84) 177 0 [.val (.ref 148), .unset] [] M (f177_oneTest zgf M) zEm := (sgB (d := d) hL zgf).1
theorem s176 {q : ZQ} {d : Nat} (hL : zLay q) {M : ZI} : zX q (d + 84) 176 0 [.val (.ref 148)] [] M (f176_every zgf M) zEm := (sgB (d := d) hL zgf).2.1
theorem s175 {q : ZQ} {d : Nat} (hL : zLay q) {M : ZI} : zX q (d + 84) 175 0 [.val (.ref 148)] [] M (f175_any zgf M) zEm := (sgB (d := d) hL zgf).2.2

theorem s169 {q : ZQ} {d : Nat} (hL : zLay q) {M : ZI} : zX q (d + 85) 169 0 [.val (.ref 148)] [] M (f169_aLine M) zEm := by
  unfold f169_aLine
  refine zX_aln0 (p := 1) d_169_0 rfl (zX_gi (p := 4) d_169_1 ow_169 gf_10_166 zo_148 rfl (zX_bi (p := 6) d_169_4 cb_20 rfl (zX_bi (p := 8) d_169_6 cb_22 rfl (zX_cS3i (p := 11) d_169_8 ow_169 rs_10_53 kk_149 rfl (s149 hL) rfl rfl rfl rfl (fun v1 => ?_)))))
  refine zX_zne (p1 := 20) (p2 := 14) d_169_11 (by decide) rfl ?_ ?_
  · refine zX_aln0 (p := 21) d_169_20 rfl (zX_gi (p := 24) d_169_21 ow_169 gf_10_227 zo_148 rfl (zX_bi (p := 26) d_169_24 cb_16 rfl ?_))
    refine zX_cne (p1 := 35) (p2 := 29) d_169_26 (by decide) rfl ?_ ?_
    · refine zX_aln0 (p := 36) d_169_35 rfl (zX_ic (p := 37) d_169_36 ci_0 rfl (zX_pi (p := 40) d_169_37 ow_169 gf_10_196 zo_148 rfl (fun M2 => ?_)))
      refine zX_aln0 (p := 41) d_169_40 rfl (zX_gr (p := 44) (b := 153) d_169_41 ow_169 gf_10_22 zo_148 (zr_10_6 hL zo_148) rfl (zX_ic (p := 45) d_169_44 ci_4 rfl (zX_aln0 (p := 46) d_169_45 rfl (zX_gi (p := 49) d_169_46 ow_169 gf_10_227 zo_148 rfl (zX_mul (p := 50) d_169_49 rfl (zX_ic (p := 51) d_169_50 ci_3 rfl (zX_add (p := 52) d_169_51 rfl ?_)))))))
      refine zX_aln0 (p := 53) d_169_52 rfl (zX_gi (p := 56) d_169_53 ow_169 gf_10_166 zo_148 rfl (zX_itg (p := 57) d_169_56 za_153 rfl (fun M3 => ?_)))
      refine zX_aln0 (p := 58) d_169_57 rfl (zX_cV0v (p := 61) ⟨ow_157, by decide⟩ zo_148 d_169_58 ow_169 rs_10_190 kk_157 rfl (s157 hL) rfl rfl rfl rfl (fun M4 => ?_))
      refine zX_aln0 (p := 62) d_169_61 rfl (zX_gr (p := 65) (b := 153) d_169_62 ow_169 gf_10_22 zo_148 (zr_10_6 hL zo_148) rfl (zX_ic (p := 66) d_169_65 ci_4 rfl (zX_aln0 (p := 67) d_169_66 rfl (zX_gi (p := 70) d_169_67 ow_169 gf_10_227 zo_148 rfl (zX_mul (p := 71) d_169_70 rfl (zX_aln0 (p := 72) d_169_71 rfl (zX_gi (p := 75) d_169_72 ow_169 gf_10_193 zo_148 rfl ?_)))))))
      refine zX_itg (p := 76) d_169_75 za_153 rfl (fun M5 => ?_)
      refine zX_aln0 (p := 77) d_169_76 rfl (zX_cV0m (p := 80) ⟨ow_171, by decide⟩ zo_148 d_169_77 ow_169 rs_10_224 kk_171 rfl (s171 hL) rfl rfl rfl rfl (fun v6 M7 => ?_))
      try dsimp only
      refine zX_zne (p1 := 85) (p2 := 83) d_169_80 (by decide) rfl ?_ ?_
      · refine zX_aln0 (p := 86) d_169_85 rfl (zX_gr (p := 89) (b := 153) d_169_86 ow_169 gf_10_22 zo_148 (zr_10_6 hL zo_148) rfl (zX_ic (p := 90) d_169_89 ci_4 rfl (zX_aln0 (p := 91) d_169_90 rfl (zX_gi (p := 94) d_169_91 ow_169 gf_10_227 zo_148 rfl (zX_mul (p := 95) d_169_94 rfl (zX_ic (p := 96) d_169_95 ci_1 rfl (zX_add (p := 97) d_169_96 rfl ?_)))))))
        refine zX_aln0 (p := 98) d_169_97 rfl (zX_gi (p := 101) d_169_98 ow_169 gf_10_193 zo_148 rfl (zX_itg (p := 102) d_169_101 za_153 rfl (fun M8 => ?_)))
        refine zX_aln0 (p := 103) d_169_102 rfl (zX_gi (p := 106) d_169_103 ow_169 gf_10_166 zo_148 rfl (zX_ic (p := 107) d_169_106 ci_3 rfl ?_))
        refine zX_jn (P := fun g => ∀  (M9 : ZI), zX q (d + 85) 169 123 [.val (.ref 148)] [] M9 (g M9) zEm) ?_ (fun j13 hj13 => ?_)
        · intro M9
          try dsimp only
          refine zX_aln0 (p := 124) d_169_123 rfl (zX_gr (p := 127) (b := 153) d_169_124 ow_169 gf_10_22 zo_148 (zr_10_6 hL zo_148) rfl (zX_ic (p := 128) d_169_127 ci_4 rfl (zX_aln0 (p := 129) d_169_128 rfl (zX_gi (p := 132) d_169_129 ow_169 gf_10_227 zo_148 rfl (zX_mul (p := 133) d_169_132 rfl (zX_ic (p := 134) d_169_133 ci_2 rfl (zX_add (p := 135) d_169_134 rfl ?_)))))))
          refine zX_aln0 (p := 136) d_169_135 rfl (zX_gi (p := 139) d_169_136 ow_169 gf_10_193 zo_148 rfl (zX_itg (p := 140) d_169_139 za_153 rfl (fun M10 => ?_)))
          refine zX_aln0 (p := 141) d_169_140 rfl (zX_si (p := 144) d_169_141 cs_159 rfl (zX_cV1m (p := 147) ⟨ow_179, by decide⟩ zo_148 d_169_144 ow_169 rs_10_222 kk_179 rfl (s179 hL) rfl rfl rfl rfl (fun v11 M12 => ?_)))
          try dsimp only
          exact zX_retmg d_169_147 rt_169
        · refine zX_cne (p1 := 123) (p2 := 110) d_169_107 (by decide) rfl ?_ ?_
          · exact hj13 M8
          · refine zX_aln0 (p := 111) d_169_110 rfl (zX_cV0v (p := 114) ⟨ow_157, by decide⟩ zo_148 d_169_111 ow_169 rs_10_190 kk_157 rfl (s157 hL) rfl rfl rfl rfl (fun M14 => ?_))
            refine zX_aln0 (p := 115) d_169_114 rfl (zX_cV0m (p := 118) ⟨ow_175, by decide⟩ zo_148 d_169_115 ow_169 rs_10_219 kk_175 rfl (s175 hL) rfl rfl rfl rfl (fun v15 M16 => ?_))
            try dsimp only
            refine zX_zne (p1 := 123) (p2 := 121) d_169_118 (by decide) rfl ?_ ?_
            · exact hj13 M16
            · refine zX_ic (p := 122) d_169_121 ci_0 rfl ?_
              exact zX_retmb d_169_122 rt_169 (Or.inl rfl)
      · refine zX_ic (p := 84) d_169_83 ci_0 rfl ?_
        exact zX_retmb d_169_84 rt_169 (Or.inl rfl)
    · refine zX_aln0 (p := 30) d_169_29 rfl (zX_ic (p := 31) d_169_30 ci_3 rfl (zX_cV1m (p := 34) ⟨ow_170, by decide⟩ zo_148 d_169_31 ow_169 rs_10_187 kk_170 rfl (s170 hL) rfl rfl rfl rfl (fun v17 M18 => ?_)))
      try dsimp only
      exact zX_retmg d_169_34 rt_169
  · refine zX_aln0 (p := 15) d_169_14 rfl (zX_ic (p := 16) d_169_15 ci_1 rfl (zX_cV1m (p := 19) ⟨ow_170, by decide⟩ zo_148 d_169_16 ow_169 rs_10_187 kk_170 rfl (s170 hL) rfl rfl rfl rfl (fun v19 M20 => ?_)))
    try dsimp only
    exact zX_retmg d_169_19 rt_169

theorem s168_l12 {q : ZQ} {d : Nat} (hL : zLay q)  : ∀ (n : Nat) (x3 : Int32) (M4 : ZI), zX q (d + 86) 168 12 [.val (.ref 148), .val (.int x3)] [] M4 (f168_l12 n x3 M4) (zEj q (d + 86) 168 49 (fun (b : Int32 × ZI) (s : Unit) => [.val (.ref 148), .val (.int b.1)]) (fun b => []) (fun b => b.2)) := by
  intro n
  induction n with
  | zero => intros; exact zX_none
  | succ n ih =>
    intro x3 M4
    rw [f168_l12]
    refine zX_iln1 (p := 13) d_168_12 rfl ?_
    refine zX_zeq (p1 := 49) (p2 := 16) d_168_13 (by decide) rfl ?_ ?_
    · exact zX_leaf (fun _ _ h => h ())
    · refine zX_aln0 (p := 17) d_168_16 rfl (zX_gi (p := 20) d_168_17 ow_168 gf_10_166 zo_148 rfl ?_)
      refine zX_zeq (p1 := 49) (p2 := 23) d_168_20 (by decide) rfl ?_ ?_
      · exact zX_leaf (fun _ _ h => h ())
      · refine zX_aln0 (p := 24) d_168_23 rfl (zX_cV0m (p := 27) ⟨ow_169, by decide⟩ zo_148 d_168_24 ow_168 rs_10_230 kk_169 rfl (s169 hL) rfl rfl rfl rfl (fun v5 M6 => ?_))
        try dsimp only
        refine zX_isn1 (p := 28) d_168_27 rfl (zX_aln0 (p := 29) d_168_28 rfl (zX_dup (p := 30) d_168_29 rfl rfl (zX_gi (p := 33) d_168_30 ow_168 gf_10_227 zo_148 rfl (zX_iln1 (p := 34) d_168_33 rfl ?_))))
        refine zX_zeq (p1 := 41) (p2 := 37) d_168_34 (by decide) rfl ?_ ?_
        · refine zX_ic (p := 42) d_168_41 ci_0 rfl (zX_add (p := 43) d_168_42 rfl (zX_pi (p := 46) d_168_43 ow_168 gf_10_227 zo_148 rfl (fun M7 => ?_)))
          refine zX_goto (p := 12) d_168_46 (by decide) ?_
          exact ih v5 M7
        · refine zX_ic (p := 38) d_168_37 ci_1 rfl (zX_goto (p := 42) d_168_38 (by decide) (zX_add (p := 43) d_168_42 rfl (zX_pi (p := 46) d_168_43 ow_168 gf_10_227 zo_148 rfl (fun M8 => ?_))))
          refine zX_goto (p := 12) d_168_46 (by decide) ?_
          exact ih v5 M8

theorem s168 {q : ZQ} {d : Nat} (hL : zLay q) {M : ZI} : zX q (d + 86) 168 0 [.val (.ref 148), .unset] [] M (f168_readsLaw M) zEm := by
  unfold f168_readsLaw
  refine zX_aln0 (p := 1) d_168_0 rfl (zX_ic (p := 2) d_168_1 ci_0 rfl (zX_pi (p := 5) d_168_2 ow_168 gf_10_227 zo_148 rfl (fun M1 => ?_)))
  refine zX_aln0 (p := 6) d_168_5 rfl (zX_ic (p := 7) d_168_6 ci_0 rfl (zX_pi (p := 10) d_168_7 ow_168 gf_10_193 zo_148 rfl (fun M2 => ?_)))
  refine zX_ic (p := 11) d_168_10 ci_1 rfl (zX_isn1 (p := 12) d_168_11 rfl ?_)
  refine zX_bind (s168_l12 hL zfu (1 : Int32) M2) ?_
  rintro ⟨x9, M10⟩ _
  try dsimp only
  refine zX_iln1 (p := 50) d_168_49 rfl ?_
  exact zX_retmg d_168_50 rt_168

theorem s182 {q : ZQ} {d : Nat} (hL : zLay q) {a1 : Int32} {a2 : Int32} {M : ZI} : zX q (d + 11) 182 0 [.val (.ref 148), .val (.int a1), .val (.int a2)] [] M (f182_number a1 a2 M) zEm := by
  unfold f182_number
  refine zX_aln0 (p := 1) d_182_0 rfl (zX_gi (p := 4) d_182_1 ow_182 gf_10_166 zo_148 rfl (zX_ic (p := 5) d_182_4 ci_2 rfl ?_))
  refine zX_ceq (p1 := 14) (p2 := 8) d_182_5 (by decide) rfl ?_ ?_
  · refine zX_aln0 (p := 15) d_182_14 rfl (zX_gi (p := 18) d_182_15 ow_182 gf_10_178 zo_148 rfl (zX_iln1 (p := 19) d_182_18 rfl (zX_iln2 (p := 20) d_182_19 rfl (zX_cS3i (p := 23) d_182_20 ow_182 rs_10_53 kk_149 rfl (s149 hL) rfl rfl rfl rfl (fun v1 => ?_)))))
    refine zX_zne (p1 := 32) (p2 := 26) d_182_23 (by decide) rfl ?_ ?_
    · refine zX_aln0 (p := 33) d_182_32 rfl (zX_aln0 (p := 34) d_182_33 rfl (zX_gi (p := 37) d_182_34 ow_182 gf_10_178 zo_148 rfl (zX_pi (p := 40) d_182_37 ow_182 gf_10_233 zo_148 rfl (fun M2 => ?_))))
      refine zX_aln0 (p := 41) d_182_40 rfl (zX_cV0v (p := 44) ⟨ow_157, by decide⟩ zo_148 d_182_41 ow_182 rs_10_190 kk_157 rfl (s157 hL) rfl rfl rfl rfl (fun M3 => ?_))
      refine zX_ic (p := 45) d_182_44 ci_1 rfl ?_
      exact zX_retmb d_182_45 rt_182 (Or.inr rfl)
    · refine zX_aln0 (p := 27) d_182_26 rfl (zX_ic (p := 28) d_182_27 ci_2 rfl (zX_cV1m (p := 31) ⟨ow_170, by decide⟩ zo_148 d_182_28 ow_182 rs_10_187 kk_170 rfl (s170 hL) rfl rfl rfl rfl (fun v4 M5 => ?_)))
      try dsimp only
      exact zX_retmg d_182_31 rt_182
  · refine zX_aln0 (p := 9) d_182_8 rfl (zX_ic (p := 10) d_182_9 ci_1 rfl (zX_cV1m (p := 13) ⟨ow_170, by decide⟩ zo_148 d_182_10 ow_182 rs_10_187 kk_170 rfl (s170 hL) rfl rfl rfl rfl (fun v6 M7 => ?_)))
    try dsimp only
    exact zX_retmg d_182_13 rt_182

theorem s181 {q : ZQ} {d : Nat} (hL : zLay q) {M : ZI} : zX q (d + 12) 181 0 [.val (.ref 148), .unset] [] M (f181_aVoice M) zEm := by
  unfold f181_aVoice
  refine zX_aln0 (p := 1) d_181_0 rfl (zX_gi (p := 4) d_181_1 ow_181 gf_10_166 zo_148 rfl (zX_ic (p := 5) d_181_4 ci_2 rfl ?_))
  refine zX_jn (P := fun g => ∀  (M1 : ZI), zX q (d + 12) 181 38 [.val (.ref 148), .unset] [] M1 (g M1) zEm) ?_ (fun j17 hj17 => ?_)
  · intro M1
    try dsimp only
    refine zX_aln0 (p := 39) d_181_38 rfl (zX_ic (p := 40) d_181_39 ci_0 rfl (zX_aln0 (p := 41) d_181_40 rfl (zX_gr (p := 44) (b := 149) d_181_41 ow_181 gf_10_7 zo_148 (zr_10_0 hL zo_148) rfl (zX_bi (p := 46) d_181_44 cb_48 rfl (zX_iac (p := 47) d_181_46 za_149 rfl zin_48_2064 zi_48 (zX_ic (p := 48) d_181_47 ci_1 rfl (zX_sub (p := 49) d_181_48 rfl ?_)))))))
    refine zX_cV2m (p := 52) ⟨ow_182, by decide⟩ zo_148 d_181_49 ow_181 rs_10_236 kk_182 rfl (s182 hL) rfl rfl rfl rfl (fun v2 M3 => ?_)
    try dsimp only
    refine zX_zne (p1 := 57) (p2 := 55) d_181_52 (by decide) rfl ?_ ?_
    · refine zX_aln0 (p := 58) d_181_57 rfl (zX_gi (p := 61) d_181_58 ow_181 gf_10_233 zo_148 rfl (zX_jsn1 (p := 62) d_181_61 rfl (fun x4 => ?_)))
      refine zX_aln0 (p := 63) d_181_62 rfl (zX_bi (p := 65) d_181_63 cb_7 rfl (zX_cV1m (p := 68) ⟨ow_179, by decide⟩ zo_148 d_181_65 ow_181 rs_10_222 kk_179 rfl (s179 hL) rfl rfl rfl rfl (fun v5 M6 => ?_)))
      try dsimp only
      refine zX_zne (p1 := 73) (p2 := 71) d_181_68 (by decide) rfl ?_ ?_
      · refine zX_aln0 (p := 74) d_181_73 rfl (zX_gi (p := 77) d_181_74 ow_181 gf_10_166 zo_148 rfl (zX_ic (p := 78) d_181_77 ci_2 rfl ?_))
        refine zX_jn (P := fun g => ∀  (M7 : ZI), zX q (d + 12) 181 95 [.val (.ref 148), .val (.int x4)] [] M7 (g M7) zEm) ?_ (fun j14 hj14 => ?_)
        · intro M7
          try dsimp only
          refine zX_aln0 (p := 96) d_181_95 rfl (zX_ic (p := 97) d_181_96 ci_0 rfl (zX_aln0 (p := 98) d_181_97 rfl (zX_gr (p := 101) (b := 149) d_181_98 ow_181 gf_10_7 zo_148 (zr_10_0 hL zo_148) rfl (zX_bi (p := 103) d_181_101 cb_48 rfl (zX_iac (p := 104) d_181_103 za_149 rfl zin_48_2064 zi_48 (zX_ic (p := 105) d_181_104 ci_1 rfl (zX_sub (p := 106) d_181_105 rfl ?_)))))))
          refine zX_cV2m (p := 109) ⟨ow_182, by decide⟩ zo_148 d_181_106 ow_181 rs_10_236 kk_182 rfl (s182 hL) rfl rfl rfl rfl (fun v8 M9 => ?_)
          try dsimp only
          refine zX_zne (p1 := 114) (p2 := 112) d_181_109 (by decide) rfl ?_ ?_
          · refine zX_aln0 (p := 115) d_181_114 rfl (zX_gr (p := 118) (b := 155) d_181_115 ow_181 gf_10_28 zo_148 (zr_10_8 hL zo_148) rfl (zX_iln1 (p := 119) d_181_118 rfl (zX_aln0 (p := 120) d_181_119 rfl (zX_gi (p := 123) d_181_120 ow_181 gf_10_233 zo_148 rfl (zX_itg (p := 124) d_181_123 za_155 rfl (fun M10 => ?_))))))
            refine zX_aln0 (p := 125) d_181_124 rfl (zX_dup (p := 126) d_181_125 rfl rfl (zX_gi (p := 129) d_181_126 ow_181 gf_10_240 zo_148 rfl (zX_ic (p := 130) d_181_129 ci_1 rfl (zX_add (p := 131) d_181_130 rfl (zX_pi (p := 134) d_181_131 ow_181 gf_10_240 zo_148 rfl (fun M11 => ?_))))))
            refine zX_aln0 (p := 135) d_181_134 rfl (zX_si (p := 138) d_181_135 cs_159 rfl (zX_cV1m (p := 141) ⟨ow_179, by decide⟩ zo_148 d_181_138 ow_181 rs_10_222 kk_179 rfl (s179 hL) rfl rfl rfl rfl (fun v12 M13 => ?_)))
            try dsimp only
            exact zX_retmg d_181_141 rt_181
          · refine zX_ic (p := 113) d_181_112 ci_0 rfl ?_
            exact zX_retmb d_181_113 rt_181 (Or.inl rfl)
        · refine zX_cne (p1 := 95) (p2 := 81) d_181_78 (by decide) rfl ?_ ?_
          · exact hj14 M6
          · refine zX_aln0 (p := 82) d_181_81 rfl (zX_gi (p := 85) d_181_82 ow_181 gf_10_178 zo_148 rfl (zX_iln1 (p := 86) d_181_85 rfl ?_))
            refine zX_cne (p1 := 95) (p2 := 89) d_181_86 (by decide) rfl ?_ ?_
            · exact hj14 M6
            · refine zX_aln0 (p := 90) d_181_89 rfl (zX_ic (p := 91) d_181_90 ci_2 rfl (zX_cV1m (p := 94) ⟨ow_170, by decide⟩ zo_148 d_181_91 ow_181 rs_10_187 kk_170 rfl (s170 hL) rfl rfl rfl rfl (fun v15 M16 => ?_)))
              try dsimp only
              exact zX_retmg d_181_94 rt_181
      · refine zX_ic (p := 72) d_181_71 ci_0 rfl ?_
        exact zX_retmb d_181_72 rt_181 (Or.inl rfl)
    · refine zX_ic (p := 56) d_181_55 ci_0 rfl ?_
      exact zX_retmb d_181_56 rt_181 (Or.inl rfl)
  · refine zX_cne (p1 := 38) (p2 := 8) d_181_5 (by decide) rfl ?_ ?_
    · exact hj17 M
    · refine zX_aln0 (p := 9) d_181_8 rfl (zX_aln0 (p := 10) d_181_9 rfl (zX_gi (p := 13) d_181_10 ow_181 gf_10_178 zo_148 rfl (zX_cV1i (p := 16) ⟨ow_152, by decide⟩ zo_148 d_181_13 ow_181 rs_10_65 kk_152 rfl (s152 hL) rfl rfl rfl rfl (fun v18 => ?_))))
      refine zX_zeq (p1 := 38) (p2 := 19) d_181_16 (by decide) rfl ?_ ?_
      · exact hj17 M
      · refine zX_aln0 (p := 20) d_181_19 rfl (zX_gr (p := 23) (b := 155) d_181_20 ow_181 gf_10_28 zo_148 (zr_10_8 hL zo_148) rfl (zX_aln0 (p := 24) d_181_23 rfl (zX_gi (p := 27) d_181_24 ow_181 gf_10_178 zo_148 rfl (zX_iag (p := 28) d_181_27 za_155 rfl (zX_ic (p := 29) d_181_28 ci_m1 rfl ?_)))))
        refine zX_ceq (p1 := 38) (p2 := 32) d_181_29 (by decide) rfl ?_ ?_
        · exact hj17 M
        · refine zX_aln0 (p := 33) d_181_32 rfl (zX_ic (p := 34) d_181_33 ci_2 rfl (zX_cV1m (p := 37) ⟨ow_170, by decide⟩ zo_148 d_181_34 ow_181 rs_10_187 kk_170 rfl (s170 hL) rfl rfl rfl rfl (fun v19 M20 => ?_)))
          try dsimp only
          exact zX_retmg d_181_37 rt_181

theorem s180_l7 {q : ZQ} {d : Nat} (hL : zLay q)  : ∀ (n : Nat) (x2 : Int32) (M3 : ZI), zX q (d + 13) 180 7 [.val (.ref 148), .val (.int x2)] [] M3 (f180_l7 n x2 M3) (zEj q (d + 13) 180 26 (fun (b : ZI) (s : Slot) => [.val (.ref 148), s]) (fun b => []) (fun b => b)) := by
  intro n
  induction n with
  | zero => intros; exact zX_none
  | succ n ih =>
    intro x2 M3
    rw [f180_l7]
    refine zX_iln1 (p := 8) d_180_7 rfl (zX_bi (p := 10) d_180_8 cb_10 rfl ?_)
    refine zX_cge (p1 := 26) (p2 := 13) d_180_10 (by decide) rfl ?_ ?_
    · exact zX_leaf (fun _ _ h => h (.val (.int x2)))
    · refine zX_aln0 (p := 14) d_180_13 rfl (zX_gr (p := 17) (b := 155) d_180_14 ow_180 gf_10_28 zo_148 (zr_10_8 hL zo_148) rfl (zX_iln1 (p := 18) d_180_17 rfl (zX_ic (p := 19) d_180_18 ci_m1 rfl (zX_itg (p := 20) d_180_19 za_155 rfl (fun M4 => ?_)))))
      refine zX_ii1 (p := 23) d_180_20 ci_1 rfl (zX_goto (p := 7) d_180_23 (by decide) ?_)
      exact ih (x2 + (1 : Int32)) M4

theorem s180_l28 {q : ZQ} {d : Nat} (hL : zLay q)  : ∀ (n : Nat) (x7 : Int32) (M8 : ZI), zX q (d + 13) 180 28 [.val (.ref 148), .val (.int x7)] [] M8 (f180_l28 n x7 M8) (zEj q (d + 13) 180 47 (fun (b : Int32 × ZI) (s : Unit) => [.val (.ref 148), .val (.int b.1)]) (fun b => []) (fun b => b.2)) := by
  intro n
  induction n with
  | zero => intros; exact zX_none
  | succ n ih =>
    intro x7 M8
    rw [f180_l28]
    refine zX_iln1 (p := 29) d_180_28 rfl ?_
    refine zX_zeq (p1 := 47) (p2 := 32) d_180_29 (by decide) rfl ?_ ?_
    · exact zX_leaf (fun _ _ h => h ())
    · refine zX_aln0 (p := 33) d_180_32 rfl (zX_gi (p := 36) d_180_33 ow_180 gf_10_166 zo_148 rfl ?_)
      refine zX_zeq (p1 := 47) (p2 := 39) d_180_36 (by decide) rfl ?_ ?_
      · exact zX_leaf (fun _ _ h => h ())
      · refine zX_aln0 (p := 40) d_180_39 rfl (zX_cV0m (p := 43) ⟨ow_181, by decide⟩ zo_148 d_180_40 ow_180 rs_10_243 kk_181 rfl (s181 hL) rfl rfl rfl rfl (fun v9 M10 => ?_))
        try dsimp only
        refine zX_isn1 (p := 44) d_180_43 rfl (zX_goto (p := 28) d_180_44 (by decide) ?_)
        exact ih v9 M10

theorem s180 {q : ZQ} {d : Nat} (hL : zLay q) {M : ZI} : zX q (d + 13) 180 0 [.val (.ref 148), .unset] [] M (f180_readsVoices M) zEm := by
  unfold f180_readsVoices
  refine zX_aln0 (p := 1) d_180_0 rfl (zX_ic (p := 2) d_180_1 ci_0 rfl (zX_pi (p := 5) d_180_2 ow_180 gf_10_240 zo_148 rfl (fun M1 => ?_)))
  refine zX_ic (p := 6) d_180_5 ci_0 rfl (zX_isn1 (p := 7) d_180_6 rfl ?_)
  refine zX_bind (s180_l7 hL zfu (0 : Int32) M1) ?_
  rintro M5 s6
  try dsimp only
  refine zX_ic (p := 27) d_180_26 ci_1 rfl (zX_isn1 (p := 28) d_180_27 rfl ?_)
  refine zX_bind (s180_l28 hL zfu (1 : Int32) M5) ?_
  rintro ⟨x11, M12⟩ _
  try dsimp only
  refine zX_iln1 (p := 48) d_180_47 rfl ?_
  exact zX_retmg d_180_48 rt_180

theorem s185 {q : ZQ} {d : Nat} (hL : zLay q) {a1 : Int32} {a2 : Int32} {a3 : Int32} {a4 : Int32} {M : ZI} : zX q (d + 12) 185 0 [.val (.ref 148), .val (.int a1), .val (.int a2), .val (.int a3), .val (.int a4)] [] M (f185_told a1 a2 a3 a4 M) zEm := by
  unfold f185_told
  refine zX_aln0 (p := 1) d_185_0 rfl (zX_iln2 (p := 2) d_185_1 rfl (zX_cV1m (p := 5) ⟨ow_179, by decide⟩ zo_148 d_185_2 ow_185 rs_10_222 kk_179 rfl (s179 hL) rfl rfl rfl rfl (fun v1 M2 => ?_)))
  try dsimp only
  refine zX_zeq (p1 := 18) (p2 := 8) d_185_5 (by decide) rfl ?_ ?_
  · refine zX_ic (p := 19) d_185_18 ci_0 rfl ?_
    exact zX_retmb d_185_19 rt_185 (Or.inl rfl)
  · refine zX_aln0 (p := 9) d_185_8 rfl (zX_iln3 (p := 10) d_185_9 rfl (zX_il4 (p := 12) d_185_10 rfl (zX_cV2m (p := 15) ⟨ow_182, by decide⟩ zo_148 d_185_12 ow_185 rs_10_236 kk_182 rfl (s182 hL) rfl rfl rfl rfl (fun v3 M4 => ?_))))
    try dsimp only
    refine zX_zne (p1 := 20) (p2 := 18) d_185_15 (by decide) rfl ?_ ?_
    · refine zX_aln0 (p := 21) d_185_20 rfl (zX_gr (p := 24) (b := 156) d_185_21 ow_185 gf_10_31 zo_148 (zr_10_9 hL zo_148) rfl (zX_bi (p := 26) d_185_24 cb_6 rfl (zX_aln0 (p := 27) d_185_26 rfl (zX_gi (p := 30) d_185_27 ow_185 gf_10_240 zo_148 rfl (zX_mul (p := 31) d_185_30 rfl (zX_iln1 (p := 32) d_185_31 rfl (zX_add (p := 33) d_185_32 rfl ?_)))))))
      refine zX_aln0 (p := 34) d_185_33 rfl (zX_gi (p := 37) d_185_34 ow_185 gf_10_233 zo_148 rfl (zX_itg (p := 38) d_185_37 za_156 rfl (fun M5 => ?_)))
      refine zX_ic (p := 39) d_185_38 ci_1 rfl ?_
      exact zX_retmb d_185_39 rt_185 (Or.inr rfl)
    · refine zX_ic (p := 19) d_185_18 ci_0 rfl ?_
      exact zX_retmb d_185_19 rt_185 (Or.inl rfl)

theorem s186 {q : ZQ} {d : Nat} (hL : zLay q) {M : ZI} : zX q (d + 12) 186 0 [.val (.ref 148)] [] M (f186_anAfter M) zEm := by
  unfold f186_anAfter
  refine zX_aln0 (p := 1) d_186_0 rfl (zX_gr (p := 4) (b := 156) d_186_1 ow_186 gf_10_31 zo_148 (zr_10_9 hL zo_148) rfl (zX_bi (p := 6) d_186_4 cb_6 rfl (zX_aln0 (p := 7) d_186_6 rfl (zX_gi (p := 10) d_186_7 ow_186 gf_10_240 zo_148 rfl (zX_mul (p := 11) d_186_10 rfl (zX_ic (p := 12) d_186_11 ci_5 rfl (zX_add (p := 13) d_186_12 rfl ?_)))))))
  refine zX_ic (p := 14) d_186_13 ci_m1 rfl (zX_itg (p := 15) d_186_14 za_156 rfl (fun M1 => ?_))
  refine zX_aln0 (p := 16) d_186_15 rfl (zX_gi (p := 19) d_186_16 ow_186 gf_10_166 zo_148 rfl (zX_bi (p := 21) d_186_19 cb_13 rfl ?_))
  refine zX_ceq (p1 := 26) (p2 := 24) d_186_21 (by decide) rfl ?_ ?_
  · refine zX_aln0 (p := 27) d_186_26 rfl (zX_cV0v (p := 30) ⟨ow_157, by decide⟩ zo_148 d_186_27 ow_186 rs_10_190 kk_157 rfl (s157 hL) rfl rfl rfl rfl (fun M2 => ?_))
    refine zX_aln0 (p := 31) d_186_30 rfl (zX_gi (p := 34) d_186_31 ow_186 gf_10_166 zo_148 rfl (zX_ic (p := 35) d_186_34 ci_2 rfl ?_))
    refine zX_jn (P := fun g => ∀  (M3 : ZI), zX q (d + 12) 186 86 [.val (.ref 148)] [] M3 (g M3) zEm) ?_ (fun j7 hj7 => ?_)
    · intro M3
      try dsimp only
      refine zX_aln0 (p := 87) d_186_86 rfl (zX_ic (p := 88) d_186_87 ci_0 rfl (zX_aln0 (p := 89) d_186_88 rfl (zX_gi (p := 92) d_186_89 ow_186 gf_10_240 zo_148 rfl (zX_ic (p := 93) d_186_92 ci_1 rfl (zX_sub (p := 94) d_186_93 rfl (zX_cV2m (p := 97) ⟨ow_182, by decide⟩ zo_148 d_186_94 ow_186 rs_10_236 kk_182 rfl (s182 hL) rfl rfl rfl rfl (fun v4 M5 => ?_)))))))
      try dsimp only
      refine zX_zne (p1 := 102) (p2 := 100) d_186_97 (by decide) rfl ?_ ?_
      · refine zX_aln0 (p := 103) d_186_102 rfl (zX_gr (p := 106) (b := 156) d_186_103 ow_186 gf_10_31 zo_148 (zr_10_9 hL zo_148) rfl (zX_bi (p := 108) d_186_106 cb_6 rfl (zX_aln0 (p := 109) d_186_108 rfl (zX_gi (p := 112) d_186_109 ow_186 gf_10_240 zo_148 rfl (zX_mul (p := 113) d_186_112 rfl (zX_ic (p := 114) d_186_113 ci_5 rfl (zX_add (p := 115) d_186_114 rfl ?_)))))))
        refine zX_aln0 (p := 116) d_186_115 rfl (zX_gi (p := 119) d_186_116 ow_186 gf_10_233 zo_148 rfl (zX_itg (p := 120) d_186_119 za_156 rfl (fun M6 => ?_)))
        refine zX_ic (p := 121) d_186_120 ci_1 rfl ?_
        exact zX_retmb d_186_121 rt_186 (Or.inr rfl)
      · refine zX_ic (p := 101) d_186_100 ci_0 rfl ?_
        exact zX_retmb d_186_101 rt_186 (Or.inl rfl)
    · refine zX_cne (p1 := 86) (p2 := 38) d_186_35 (by decide) rfl ?_ ?_
      · exact hj7 M2
      · refine zX_aln0 (p := 39) d_186_38 rfl (zX_gi (p := 42) d_186_39 ow_186 gf_10_178 zo_148 rfl (zX_aln0 (p := 43) d_186_42 rfl (zX_gi (p := 46) d_186_43 ow_186 gf_10_240 zo_148 rfl ?_)))
        refine zX_cge (p1 := 86) (p2 := 49) d_186_46 (by decide) rfl ?_ ?_
        · exact hj7 M2
        · refine zX_aln0 (p := 50) d_186_49 rfl (zX_gr (p := 53) (b := 156) d_186_50 ow_186 gf_10_31 zo_148 (zr_10_9 hL zo_148) rfl (zX_bi (p := 55) d_186_53 cb_6 rfl (zX_aln0 (p := 56) d_186_55 rfl (zX_gi (p := 59) d_186_56 ow_186 gf_10_178 zo_148 rfl (zX_mul (p := 60) d_186_59 rfl (zX_ic (p := 61) d_186_60 ci_0 rfl (zX_add (p := 62) d_186_61 rfl ?_)))))))
          refine zX_iag (p := 63) d_186_62 za_156 rfl (zX_aln0 (p := 64) d_186_63 rfl (zX_gr (p := 67) (b := 156) d_186_64 ow_186 gf_10_31 zo_148 (zr_10_9 hL zo_148) rfl (zX_bi (p := 69) d_186_67 cb_6 rfl (zX_aln0 (p := 70) d_186_69 rfl (zX_gi (p := 73) d_186_70 ow_186 gf_10_240 zo_148 rfl (zX_mul (p := 74) d_186_73 rfl (zX_ic (p := 75) d_186_74 ci_0 rfl ?_)))))))
          refine zX_add (p := 76) d_186_75 rfl (zX_iag (p := 77) d_186_76 za_156 rfl ?_)
          refine zX_ceq (p1 := 86) (p2 := 80) d_186_77 (by decide) rfl ?_ ?_
          · exact hj7 M2
          · refine zX_aln0 (p := 81) d_186_80 rfl (zX_ic (p := 82) d_186_81 ci_2 rfl (zX_cV1m (p := 85) ⟨ow_170, by decide⟩ zo_148 d_186_82 ow_186 rs_10_187 kk_170 rfl (s170 hL) rfl rfl rfl rfl (fun v8 M9 => ?_)))
            try dsimp only
            exact zX_retmg d_186_85 rt_186
  · refine zX_ic (p := 25) d_186_24 ci_1 rfl ?_
    exact zX_retmb d_186_25 rt_186 (Or.inr rfl)

theorem s184 {q : ZQ} {d : Nat} (hL : zLay q) {M : ZI} : zX q (d + 13) 184 0 [.val (.ref 148)] [] M (f184_aWork M) zEm := by
  unfold f184_aWork
  refine zX_aln0 (p := 1) d_184_0 rfl (zX_gi (p := 4) d_184_1 ow_184 gf_10_166 zo_148 rfl (zX_bi (p := 6) d_184_4 cb_8 rfl ?_))
  refine zX_ceq (p1 := 15) (p2 := 9) d_184_6 (by decide) rfl ?_ ?_
  · refine zX_aln0 (p := 16) d_184_15 rfl (zX_gi (p := 19) d_184_16 ow_184 gf_10_240 zo_148 rfl (zX_bi (p := 21) d_184_19 cb_12 rfl ?_))
    refine zX_cne (p1 := 30) (p2 := 24) d_184_21 (by decide) rfl ?_ ?_
    · refine zX_aln0 (p := 31) d_184_30 rfl (zX_ic (p := 32) d_184_31 ci_0 rfl (zX_bi (p := 34) d_184_32 cb_8 rfl (zX_ic (p := 35) d_184_34 ci_0 rfl (zX_aln0 (p := 36) d_184_35 rfl (zX_gr (p := 39) (b := 149) d_184_36 ow_184 gf_10_7 zo_148 (zr_10_0 hL zo_148) rfl (zX_bi (p := 41) d_184_39 cb_48 rfl (zX_iac (p := 42) d_184_41 za_149 rfl zin_48_2064 zi_48 ?_)))))))
      refine zX_ic (p := 43) d_184_42 ci_1 rfl (zX_sub (p := 44) d_184_43 rfl (zX_cV4m (p := 47) ⟨ow_185, by decide⟩ zo_148 d_184_44 ow_184 rs_10_246 kk_185 rfl (s185 hL) rfl rfl rfl rfl (fun v1 M2 => ?_)))
      try dsimp only
      refine zX_zeq (p1 := 76) (p2 := 50) d_184_47 (by decide) rfl ?_ ?_
      · refine zX_ic (p := 77) d_184_76 ci_0 rfl ?_
        exact zX_retmb d_184_77 rt_184 (Or.inl rfl)
      · refine zX_aln0 (p := 51) d_184_50 rfl (zX_ic (p := 52) d_184_51 ci_1 rfl (zX_bi (p := 54) d_184_52 cb_9 rfl (zX_ic (p := 55) d_184_54 ci_1 rfl (zX_bi (p := 57) d_184_55 cb_24 rfl (zX_cV4m (p := 60) ⟨ow_185, by decide⟩ zo_148 d_184_57 ow_184 rs_10_246 kk_185 rfl (s185 hL) rfl rfl rfl rfl (fun v3 M4 => ?_))))))
        try dsimp only
        refine zX_zeq (p1 := 76) (p2 := 63) d_184_60 (by decide) rfl ?_ ?_
        · refine zX_ic (p := 77) d_184_76 ci_0 rfl ?_
          exact zX_retmb d_184_77 rt_184 (Or.inl rfl)
        · refine zX_aln0 (p := 64) d_184_63 rfl (zX_ic (p := 65) d_184_64 ci_2 rfl (zX_bi (p := 67) d_184_65 cb_10 rfl (zX_ic (p := 68) d_184_67 ci_0 rfl (zX_bi (p := 70) d_184_68 cb_99 rfl (zX_cV4m (p := 73) ⟨ow_185, by decide⟩ zo_148 d_184_70 ow_184 rs_10_246 kk_185 rfl (s185 hL) rfl rfl rfl rfl (fun v5 M6 => ?_))))))
          try dsimp only
          refine zX_zne (p1 := 78) (p2 := 76) d_184_73 (by decide) rfl ?_ ?_
          · refine zX_aln0 (p := 79) d_184_78 rfl (zX_ic (p := 80) d_184_79 ci_3 rfl (zX_bi (p := 82) d_184_80 cb_11 rfl (zX_ic (p := 83) d_184_82 ci_0 rfl (zX_bi (p := 85) d_184_83 cb_9 rfl (zX_cV4m (p := 88) ⟨ow_185, by decide⟩ zo_148 d_184_85 ow_184 rs_10_246 kk_185 rfl (s185 hL) rfl rfl rfl rfl (fun v7 M8 => ?_))))))
            try dsimp only
            refine zX_zeq (p1 := 111) (p2 := 91) d_184_88 (by decide) rfl ?_ ?_
            · refine zX_ic (p := 112) d_184_111 ci_0 rfl ?_
              exact zX_retmb d_184_112 rt_184 (Or.inl rfl)
            · refine zX_aln0 (p := 92) d_184_91 rfl (zX_ic (p := 93) d_184_92 ci_4 rfl (zX_bi (p := 95) d_184_93 cb_12 rfl (zX_ic (p := 96) d_184_95 ci_0 rfl (zX_bi (p := 98) d_184_96 cb_9 rfl (zX_cV4m (p := 101) ⟨ow_185, by decide⟩ zo_148 d_184_98 ow_184 rs_10_246 kk_185 rfl (s185 hL) rfl rfl rfl rfl (fun v9 M10 => ?_))))))
              try dsimp only
              refine zX_zeq (p1 := 111) (p2 := 104) d_184_101 (by decide) rfl ?_ ?_
              · refine zX_ic (p := 112) d_184_111 ci_0 rfl ?_
                exact zX_retmb d_184_112 rt_184 (Or.inl rfl)
              · refine zX_aln0 (p := 105) d_184_104 rfl (zX_cV0m (p := 108) ⟨ow_186, by decide⟩ zo_148 d_184_105 ow_184 rs_10_250 kk_186 rfl (s186 hL) rfl rfl rfl rfl (fun v11 M12 => ?_))
                try dsimp only
                refine zX_zne (p1 := 113) (p2 := 111) d_184_108 (by decide) rfl ?_ ?_
                · refine zX_aln0 (p := 114) d_184_113 rfl (zX_dup (p := 115) d_184_114 rfl rfl (zX_gi (p := 118) d_184_115 ow_184 gf_10_240 zo_148 rfl (zX_ic (p := 119) d_184_118 ci_1 rfl (zX_add (p := 120) d_184_119 rfl (zX_pi (p := 123) d_184_120 ow_184 gf_10_240 zo_148 rfl (fun M13 => ?_))))))
                  refine zX_aln0 (p := 124) d_184_123 rfl (zX_si (p := 127) d_184_124 cs_159 rfl (zX_cV1m (p := 130) ⟨ow_179, by decide⟩ zo_148 d_184_127 ow_184 rs_10_222 kk_179 rfl (s179 hL) rfl rfl rfl rfl (fun v14 M15 => ?_)))
                  try dsimp only
                  exact zX_retmg d_184_130 rt_184
                · refine zX_ic (p := 112) d_184_111 ci_0 rfl ?_
                  exact zX_retmb d_184_112 rt_184 (Or.inl rfl)
          · refine zX_ic (p := 77) d_184_76 ci_0 rfl ?_
            exact zX_retmb d_184_77 rt_184 (Or.inl rfl)
    · refine zX_aln0 (p := 25) d_184_24 rfl (zX_ic (p := 26) d_184_25 ci_3 rfl (zX_cV1m (p := 29) ⟨ow_170, by decide⟩ zo_148 d_184_26 ow_184 rs_10_187 kk_170 rfl (s170 hL) rfl rfl rfl rfl (fun v16 M17 => ?_)))
      try dsimp only
      exact zX_retmg d_184_29 rt_184
  · refine zX_aln0 (p := 10) d_184_9 rfl (zX_ic (p := 11) d_184_10 ci_1 rfl (zX_cV1m (p := 14) ⟨ow_170, by decide⟩ zo_148 d_184_11 ow_184 rs_10_187 kk_170 rfl (s170 hL) rfl rfl rfl rfl (fun v18 M19 => ?_)))
    try dsimp only
    exact zX_retmg d_184_14 rt_184

theorem s183_l7 {q : ZQ} {d : Nat} (hL : zLay q)  : ∀ (n : Nat) (x2 : Int32) (M3 : ZI), zX q (d + 14) 183 7 [.val (.ref 148), .val (.int x2)] [] M3 (f183_l7 n x2 M3) (zEj q (d + 14) 183 26 (fun (b : Int32 × ZI) (s : Unit) => [.val (.ref 148), .val (.int b.1)]) (fun b => []) (fun b => b.2)) := by
  intro n
  induction n with
  | zero => intros; exact zX_none
  | succ n ih =>
    intro x2 M3
    rw [f183_l7]
    refine zX_iln1 (p := 8) d_183_7 rfl ?_
    refine zX_zeq (p1 := 26) (p2 := 11) d_183_8 (by decide) rfl ?_ ?_
    · exact zX_leaf (fun _ _ h => h ())
    · refine zX_aln0 (p := 12) d_183_11 rfl (zX_gi (p := 15) d_183_12 ow_183 gf_10_166 zo_148 rfl ?_)
      refine zX_zeq (p1 := 26) (p2 := 18) d_183_15 (by decide) rfl ?_ ?_
      · exact zX_leaf (fun _ _ h => h ())
      · refine zX_aln0 (p := 19) d_183_18 rfl (zX_cV0m (p := 22) ⟨ow_184, by decide⟩ zo_148 d_183_19 ow_183 rs_10_253 kk_184 rfl (s184 hL) rfl rfl rfl rfl (fun v4 M5 => ?_))
        try dsimp only
        refine zX_isn1 (p := 23) d_183_22 rfl (zX_goto (p := 7) d_183_23 (by decide) ?_)
        exact ih v4 M5

theorem s183 {q : ZQ} {d : Nat} (hL : zLay q) {M : ZI} : zX q (d + 14) 183 0 [.val (.ref 148), .unset] [] M (f183_readsWorks M) zEm := by
  unfold f183_readsWorks
  refine zX_aln0 (p := 1) d_183_0 rfl (zX_ic (p := 2) d_183_1 ci_0 rfl (zX_pi (p := 5) d_183_2 ow_183 gf_10_240 zo_148 rfl (fun M1 => ?_)))
  refine zX_ic (p := 6) d_183_5 ci_1 rfl (zX_isn1 (p := 7) d_183_6 rfl ?_)
  refine zX_bind (s183_l7 hL zfu (1 : Int32) M1) ?_
  rintro ⟨x6, M7⟩ _
  try dsimp only
  refine zX_iln1 (p := 27) d_183_26 rfl ?_
  exact zX_retmg d_183_27 rt_183

theorem s191 {q : ZQ} {d : Nat} (hL : zLay q) {a1 : Int32} {M : ZI} : zX q d 191 0 [.val (.ref 148), .val (.int a1)] [] M (f191_rules a1 M) zEv := by
  unfold f191_rules
  refine zX_aln0 (p := 1) d_191_0 rfl (zX_gr (p := 4) (b := 157) d_191_1 ow_191 gf_10_34 zo_148 (zr_10_10 hL zo_148) rfl (zX_aln0 (p := 5) d_191_4 rfl (zX_gi (p := 8) d_191_5 ow_191 gf_10_256 zo_148 rfl (zX_iln1 (p := 9) d_191_8 rfl (zX_itg (p := 10) d_191_9 za_157 rfl (fun M1 => ?_))))))
  refine zX_aln0 (p := 11) d_191_10 rfl (zX_dup (p := 12) d_191_11 rfl rfl (zX_gi (p := 15) d_191_12 ow_191 gf_10_256 zo_148 rfl (zX_ic (p := 16) d_191_15 ci_1 rfl (zX_add (p := 17) d_191_16 rfl (zX_pi (p := 20) d_191_17 ow_191 gf_10_256 zo_148 rfl (fun M2 => ?_))))))
  exact zX_retv d_191_20 rt_191

theorem s190_b {q : ZQ} {d : Nat} (hL : zLay q) {g188 : ZI → Option (Int32 × ZI)} (h188 : ∀ {M : ZI}, zX q (d + 12) 188 0 [.val (.ref 148)] [] M (g188 M) zEm) {M : ZI} : zX q (d + 13) 190 0 [.val (.ref 148), .unset] [] M (f190_oneOf_b g188 M) zEm := by
  unfold f190_oneOf_b
  refine zX_aln0 (p := 1) d_190_0 rfl (zX_gi (p := 4) d_190_1 ow_190 gf_10_166 zo_148 rfl (zX_si (p := 7) d_190_4 cs_140 rfl ?_))
  refine zX_cne (p1 := 70) (p2 := 10) d_190_7 (by decide) rfl ?_ ?_
  · refine zX_aln0 (p := 71) d_190_70 rfl (zX_gi (p := 74) d_190_71 ow_190 gf_10_166 zo_148 rfl (zX_bi (p := 76) d_190_74 cb_14 rfl ?_))
    refine zX_bind (σ := Unit) (β := Int32) (pj := 84) (lj := fun (b : Int32) (s : Unit) => [.val (.ref 148), .unset]) (sj := fun b => [.int b]) (mj := fun b => M) ?_ ?_
    · refine zX_cne (p1 := 83) (p2 := 79) d_190_76 (by decide) rfl ?_ ?_
      · refine zX_ic (p := 84) d_190_83 ci_0 rfl ?_
        exact zX_leaf (fun _ _ h => h ())
      · refine zX_ic (p := 80) d_190_79 ci_1 rfl (zX_goto (p := 84) d_190_80 (by decide) ?_)
        exact zX_leaf (fun _ _ h => h ())
    · rintro v1 _
      try dsimp only
      refine zX_isn1 (p := 85) d_190_84 rfl (zX_iln1 (p := 86) d_190_85 rfl ?_)
      refine zX_bind (σ := Unit) (β := ZI) (pj := 93) (lj := fun (b : ZI) (s : Unit) => [.val (.ref 148), .val (.int v1)]) (sj := fun b => []) (mj := fun b => b) ?_ ?_
      · refine zX_zeq (p1 := 93) (p2 := 89) d_190_86 (by decide) rfl ?_ ?_
        · exact zX_leaf (fun _ _ h => h ())
        · refine zX_aln0 (p := 90) d_190_89 rfl (zX_cV0v (p := 93) ⟨ow_157, by decide⟩ zo_148 d_190_90 ow_190 rs_10_190 kk_157 rfl (s157 hL) rfl rfl rfl rfl (fun M2 => ?_))
          exact zX_leaf (fun _ _ h => h ())
      · rintro M3 _
        try dsimp only
        refine zX_aln0 (p := 94) d_190_93 rfl (zX_iln1 (p := 95) d_190_94 rfl ?_)
        refine zX_bind (σ := Unit) (β := Int32) (pj := 103) (lj := fun (b : Int32) (s : Unit) => [.val (.ref 148), .val (.int v1)]) (sj := fun b => [.int b, .ref 148]) (mj := fun b => M3) ?_ ?_
        · refine zX_zeq (p1 := 102) (p2 := 98) d_190_95 (by decide) rfl ?_ ?_
          · refine zX_ic (p := 103) d_190_102 ci_0 rfl ?_
            exact zX_leaf (fun _ _ h => h ())
          · refine zX_ic (p := 99) d_190_98 ci_1 rfl (zX_goto (p := 103) d_190_99 (by decide) ?_)
            exact zX_leaf (fun _ _ h => h ())
        · rintro v4 _
          try dsimp only
          refine zX_iln1 (p := 104) d_190_103 rfl ?_
          refine zX_bind (σ := Unit) (β := Int32) (pj := 121) (lj := fun (b : Int32) (s : Unit) => [.val (.ref 148), .val (.int v1)]) (sj := fun b => [.int b, .int v4, .ref 148]) (mj := fun b => M3) ?_ ?_
          · refine zX_zeq (p1 := 112) (p2 := 107) d_190_104 (by decide) rfl ?_ ?_
            · refine zX_aln0 (p := 113) d_190_112 rfl (zX_gr (p := 116) (b := 149) d_190_113 ow_190 gf_10_7 zo_148 (zr_10_0 hL zo_148) rfl (zX_bi (p := 118) d_190_116 cb_48 rfl (zX_iac (p := 119) d_190_118 za_149 rfl zin_48_2064 zi_48 (zX_ic (p := 120) d_190_119 ci_1 rfl (zX_sub (p := 121) d_190_120 rfl ?_)))))
              exact zX_leaf (fun _ _ h => h ())
            · refine zX_bi (p := 109) d_190_107 cb_10 rfl (zX_goto (p := 121) d_190_109 (by decide) ?_)
              exact zX_leaf (fun _ _ h => h ())
          · rintro v5 _
            try dsimp only
            refine zX_cV2m (p := 124) ⟨ow_182, by decide⟩ zo_148 d_190_121 ow_190 rs_10_236 kk_182 rfl (s182 hL) rfl rfl rfl rfl (fun v6 M7 => ?_)
            try dsimp only
            refine zX_zne (p1 := 129) (p2 := 127) d_190_124 (by decide) rfl ?_ ?_
            · refine zX_aln0 (p := 130) d_190_129 rfl (zX_iln1 (p := 131) d_190_130 rfl ?_)
              refine zX_bind (σ := Unit) (β := Int32) (pj := 140) (lj := fun (b : Int32) (s : Unit) => [.val (.ref 148), .val (.int v1)]) (sj := fun b => [.int b, .ref 148]) (mj := fun b => M7) ?_ ?_
              · refine zX_zeq (p1 := 139) (p2 := 134) d_190_131 (by decide) rfl ?_ ?_
                · refine zX_ic (p := 140) d_190_139 ci_0 rfl ?_
                  exact zX_leaf (fun _ _ h => h ())
                · refine zX_bi (p := 136) d_190_134 cb_20 rfl (zX_goto (p := 140) d_190_136 (by decide) ?_)
                  exact zX_leaf (fun _ _ h => h ())
              · rintro v8 _
                try dsimp only
                refine zX_aln0 (p := 141) d_190_140 rfl (zX_gi (p := 144) d_190_141 ow_190 gf_10_233 zo_148 rfl (zX_add (p := 145) d_190_144 rfl (zX_cV1v (p := 148) ⟨ow_191, by decide⟩ zo_148 d_190_145 ow_190 rs_10_262 kk_191 rfl (s191 hL) rfl rfl rfl rfl (fun M9 => ?_))))
                refine zX_aln0 (p := 149) d_190_148 rfl (zX_dup (p := 150) d_190_149 rfl rfl (zX_gi (p := 153) d_190_150 ow_190 gf_10_240 zo_148 rfl (zX_ic (p := 154) d_190_153 ci_1 rfl (zX_add (p := 155) d_190_154 rfl (zX_pi (p := 158) d_190_155 ow_190 gf_10_240 zo_148 rfl (fun M10 => ?_))))))
                refine zX_ic (p := 159) d_190_158 ci_1 rfl ?_
                exact zX_retmb d_190_159 rt_190 (Or.inr rfl)
            · refine zX_ic (p := 128) d_190_127 ci_0 rfl ?_
              exact zX_retmb d_190_128 rt_190 (Or.inl rfl)
  · refine zX_aln0 (p := 11) d_190_10 rfl (zX_gi (p := 14) d_190_11 ow_190 gf_10_196 zo_148 rfl (zX_bi (p := 16) d_190_14 cb_8 rfl ?_))
    refine zX_cne (p1 := 25) (p2 := 19) d_190_16 (by decide) rfl ?_ ?_
    · refine zX_aln0 (p := 26) d_190_25 rfl (zX_dup (p := 27) d_190_26 rfl rfl (zX_gi (p := 30) d_190_27 ow_190 gf_10_196 zo_148 rfl (zX_ic (p := 31) d_190_30 ci_1 rfl (zX_add (p := 32) d_190_31 rfl (zX_pi (p := 35) d_190_32 ow_190 gf_10_196 zo_148 rfl (fun M11 => ?_))))))
      refine zX_aln0 (p := 36) d_190_35 rfl (zX_cV0v (p := 39) ⟨ow_157, by decide⟩ zo_148 d_190_36 ow_190 rs_10_190 kk_157 rfl (s157 hL) rfl rfl rfl rfl (fun M12 => ?_))
      refine zX_aln0 (p := 40) d_190_39 rfl (zX_cV0m (p := 43) ⟨ow_188, by decide⟩ zo_148 d_190_40 ow_190 rs_10_268 kk_188 rfl (h188) rfl rfl rfl rfl (fun v13 M14 => ?_))
      try dsimp only
      refine zX_zeq (p1 := 56) (p2 := 46) d_190_43 (by decide) rfl ?_ ?_
      · refine zX_ic (p := 57) d_190_56 ci_0 rfl ?_
        exact zX_retmb d_190_57 rt_190 (Or.inl rfl)
      · refine zX_aln0 (p := 47) d_190_46 rfl (zX_si (p := 50) d_190_47 cs_141 rfl (zX_cV1m (p := 53) ⟨ow_179, by decide⟩ zo_148 d_190_50 ow_190 rs_10_222 kk_179 rfl (s179 hL) rfl rfl rfl rfl (fun v15 M16 => ?_)))
        try dsimp only
        refine zX_zne (p1 := 58) (p2 := 56) d_190_53 (by decide) rfl ?_ ?_
        · refine zX_aln0 (p := 59) d_190_58 rfl (zX_dup (p := 60) d_190_59 rfl rfl (zX_gi (p := 63) d_190_60 ow_190 gf_10_196 zo_148 rfl (zX_ic (p := 64) d_190_63 ci_1 rfl (zX_sub (p := 65) d_190_64 rfl (zX_pi (p := 68) d_190_65 ow_190 gf_10_196 zo_148 rfl (fun M17 => ?_))))))
          refine zX_ic (p := 69) d_190_68 ci_1 rfl ?_
          exact zX_retmb d_190_69 rt_190 (Or.inr rfl)
        · refine zX_ic (p := 57) d_190_56 ci_0 rfl ?_
          exact zX_retmb d_190_57 rt_190 (Or.inl rfl)
    · refine zX_aln0 (p := 20) d_190_19 rfl (zX_ic (p := 21) d_190_20 ci_3 rfl (zX_cV1m (p := 24) ⟨ow_170, by decide⟩ zo_148 d_190_21 ow_190 rs_10_187 kk_170 rfl (s170 hL) rfl rfl rfl rfl (fun v18 M19 => ?_)))
      try dsimp only
      exact zX_retmg d_190_24 rt_190

theorem s189_l9 {q : ZQ} {d : Nat} (hL : zLay q) {g190 : ZI → Option (Int32 × ZI)} (h190 : ∀ {M : ZI}, zX q (d + 12) 190 0 [.val (.ref 148), .unset] [] M (g190 M) zEm)  : ∀ (n : Nat) (M3 : ZI), zX q (d + 13) 189 9 [.val (.ref 148)] [] M3 (f189_l9 g190 n M3) zEm := by
  intro n
  induction n with
  | zero => intros; exact zX_none
  | succ n ih =>
    intro M3
    rw [f189_l9]
    refine zX_aln0 (p := 10) d_189_9 rfl (zX_gi (p := 13) d_189_10 ow_189 gf_10_166 zo_148 rfl (zX_ic (p := 14) d_189_13 ci_5 rfl ?_))
    refine zX_cne (p1 := 39) (p2 := 17) d_189_14 (by decide) rfl ?_ ?_
    · refine zX_ic (p := 40) d_189_39 ci_1 rfl ?_
      exact zX_retmb d_189_40 rt_189 (Or.inr rfl)
    · refine zX_aln0 (p := 18) d_189_17 rfl (zX_cV0v (p := 21) ⟨ow_157, by decide⟩ zo_148 d_189_18 ow_189 rs_10_190 kk_157 rfl (s157 hL) rfl rfl rfl rfl (fun M4 => ?_))
      refine zX_aln0 (p := 22) d_189_21 rfl (zX_cV0m (p := 25) ⟨ow_190, by decide⟩ zo_148 d_189_22 ow_189 rs_10_265 kk_190 rfl (h190) rfl rfl rfl rfl (fun v5 M6 => ?_))
      try dsimp only
      refine zX_zne (p1 := 30) (p2 := 28) d_189_25 (by decide) rfl ?_ ?_
      · refine zX_aln0 (p := 31) d_189_30 rfl (zX_bi (p := 33) d_189_31 cb_40 rfl (zX_cV1v (p := 36) ⟨ow_191, by decide⟩ zo_148 d_189_33 ow_189 rs_10_262 kk_191 rfl (s191 hL) rfl rfl rfl rfl (fun M7 => ?_)))
        refine zX_goto (p := 9) d_189_36 (by decide) ?_
        exact ih M7
      · refine zX_ic (p := 29) d_189_28 ci_0 rfl ?_
        exact zX_retmb d_189_29 rt_189 (Or.inl rfl)

theorem s189_b {q : ZQ} {d : Nat} (hL : zLay q) {g190 : ZI → Option (Int32 × ZI)} (h190 : ∀ {M : ZI}, zX q (d + 12) 190 0 [.val (.ref 148), .unset] [] M (g190 M) zEm) {M : ZI} : zX q (d + 13) 189 0 [.val (.ref 148)] [] M (f189_anyOf_b g190 M) zEm := by
  unfold f189_anyOf_b
  refine zX_aln0 (p := 1) d_189_0 rfl (zX_cV0m (p := 4) ⟨ow_190, by decide⟩ zo_148 d_189_1 ow_189 rs_10_265 kk_190 rfl (h190) rfl rfl rfl rfl (fun v1 M2 => ?_))
  try dsimp only
  refine zX_zne (p1 := 9) (p2 := 7) d_189_4 (by decide) rfl ?_ ?_
  · exact s189_l9 hL h190 zfu M2
  · refine zX_ic (p := 8) d_189_7 ci_0 rfl ?_
    exact zX_retmb d_189_8 rt_189 (Or.inl rfl)

theorem s188_l9 {q : ZQ} {d : Nat} (hL : zLay q) {g189 : ZI → Option (Int32 × ZI)} (h189 : ∀ {M : ZI}, zX q (d + 12) 189 0 [.val (.ref 148)] [] M (g189 M) zEm)  : ∀ (n : Nat) (M3 : ZI), zX q (d + 13) 188 9 [.val (.ref 148)] [] M3 (f188_l9 g189 n M3) zEm := by
  intro n
  induction n with
  | zero => intros; exact zX_none
  | succ n ih =>
    intro M3
    rw [f188_l9]
    refine zX_aln0 (p := 10) d_188_9 rfl (zX_gi (p := 13) d_188_10 ow_188 gf_10_166 zo_148 rfl (zX_ic (p := 14) d_188_13 ci_4 rfl ?_))
    refine zX_cne (p1 := 39) (p2 := 17) d_188_14 (by decide) rfl ?_ ?_
    · refine zX_ic (p := 40) d_188_39 ci_1 rfl ?_
      exact zX_retmb d_188_40 rt_188 (Or.inr rfl)
    · refine zX_aln0 (p := 18) d_188_17 rfl (zX_cV0v (p := 21) ⟨ow_157, by decide⟩ zo_148 d_188_18 ow_188 rs_10_190 kk_157 rfl (s157 hL) rfl rfl rfl rfl (fun M4 => ?_))
      refine zX_aln0 (p := 22) d_188_21 rfl (zX_cV0m (p := 25) ⟨ow_189, by decide⟩ zo_148 d_188_22 ow_188 rs_10_259 kk_189 rfl (h189) rfl rfl rfl rfl (fun v5 M6 => ?_))
      try dsimp only
      refine zX_zne (p1 := 30) (p2 := 28) d_188_25 (by decide) rfl ?_ ?_
      · refine zX_aln0 (p := 31) d_188_30 rfl (zX_bi (p := 33) d_188_31 cb_41 rfl (zX_cV1v (p := 36) ⟨ow_191, by decide⟩ zo_148 d_188_33 ow_188 rs_10_262 kk_191 rfl (s191 hL) rfl rfl rfl rfl (fun M7 => ?_)))
        refine zX_goto (p := 9) d_188_36 (by decide) ?_
        exact ih M7
      · refine zX_ic (p := 29) d_188_28 ci_0 rfl ?_
        exact zX_retmb d_188_29 rt_188 (Or.inl rfl)

theorem s188_b {q : ZQ} {d : Nat} (hL : zLay q) {g189 : ZI → Option (Int32 × ZI)} (h189 : ∀ {M : ZI}, zX q (d + 12) 189 0 [.val (.ref 148)] [] M (g189 M) zEm) {M : ZI} : zX q (d + 13) 188 0 [.val (.ref 148)] [] M (f188_aRule_b g189 M) zEm := by
  unfold f188_aRule_b
  refine zX_aln0 (p := 1) d_188_0 rfl (zX_cV0m (p := 4) ⟨ow_189, by decide⟩ zo_148 d_188_1 ow_188 rs_10_259 kk_189 rfl (h189) rfl rfl rfl rfl (fun v1 M2 => ?_))
  try dsimp only
  refine zX_zne (p1 := 9) (p2 := 7) d_188_4 (by decide) rfl ?_ ?_
  · exact s188_l9 hL h189 zfu M2
  · refine zX_ic (p := 8) d_188_7 ci_0 rfl ?_
    exact zX_retmb d_188_8 rt_188 (Or.inl rfl)

theorem sgC {q : ZQ} {d : Nat} (hL : zLay q) : ∀ f : Nat, (∀ {M : ZI}, zX q (d + 12 + f) 190 0 [.val (.ref 148), .unset] [] M (f190_oneOf f M) zEm) ∧ (∀ {M : ZI}, zX q (d + 12 + f) 189 0 [.val (.ref 148)] [] M (f189_anyOf f M) zEm) ∧ (∀ {M : ZI}, zX q (d + 12 + f) 188 0 [.val (.ref 148)] [] M (f188_aRule f M) zEm) := by
  intro f
  induction f with
  | zero => exact ⟨by intros; exact zX_none, by intros; exact zX_none, by intros; exact zX_none⟩
  | succ f ih =>
    exact ⟨by intro M; rw [show d + 12 + (f + 1) = d + f + 13 from by omega, fe190]; exact s190_b (d := d + f) (hL := hL) (g188 := f188_aRule f) (h188 := by intro M; rw [show d + f + 12 = d + 12 + f from by omega]; exact ih.2.2),
      by intro M; rw [show d + 12 + (f + 1) = d + f + 13 from by omega, fe189]; exact s189_b (d := d + f) (hL := hL) (g190 := f190_oneOf f) (h190 := by intro M; rw [show d + f + 12 = d + 12 + f from by omega]; exact ih.1),
      by intro M; rw [show d + 12 + (f + 1) = d + f + 13 from by omega, fe188]; exact s188_b (d := d + f) (hL := hL) (g189 := f189_anyOf f) (h189 := by intro M; rw [show d + f + 12 = d + 12 + f from by omega]; exact ih.2.1)⟩
theorem s190 {q : ZQ} {d : Nat} (hL : zLay q) {M : ZI} : zX q (d + 82) 190 0 [.val (.ref 148), .unset] [] M (f190_oneOf zgf M) zEm := (sgC (d := d) hL zgf).1
theorem s189 {q : ZQ} {d : Nat} (hL : zLay q) {M : ZI} : zX q (d + 82) 189 0 [.val (.ref 148)] [] M (f189_anyOf zgf M) zEm := (sgC (d := d) hL zgf).2.1
theorem s188 {q : ZQ} {d : Nat} (hL : zLay q) {M : ZI} : zX q (d + 82) 188 0 [.val (.ref 148)] [] M (f188_aRule zgf M) zEm := (sgC (d := d) hL zgf).2.2

theorem s187 {q : ZQ} {d : Nat} (hL : zLay q) {M : ZI} : zX q (d + 83) 187 0 [.val (.ref 148)] [] M (f187_readsCouncil M) zEm := by
  unfold f187_readsCouncil
  refine zX_aln0 (p := 1) d_187_0 rfl (zX_ic (p := 2) d_187_1 ci_0 rfl (zX_pi (p := 5) d_187_2 ow_187 gf_10_240 zo_148 rfl (fun M1 => ?_)))
  refine zX_aln0 (p := 6) d_187_5 rfl (zX_ic (p := 7) d_187_6 ci_0 rfl (zX_pi (p := 10) d_187_7 ow_187 gf_10_256 zo_148 rfl (fun M2 => ?_)))
  refine zX_aln0 (p := 11) d_187_10 rfl (zX_ic (p := 12) d_187_11 ci_0 rfl (zX_pi (p := 15) d_187_12 ow_187 gf_10_196 zo_148 rfl (fun M3 => ?_)))
  refine zX_aln0 (p := 16) d_187_15 rfl (zX_gi (p := 19) d_187_16 ow_187 gf_10_166 zo_148 rfl ?_)
  refine zX_zne (p1 := 24) (p2 := 22) d_187_19 (by decide) rfl ?_ ?_
  · refine zX_aln0 (p := 25) d_187_24 rfl (zX_cV0m (p := 28) ⟨ow_188, by decide⟩ zo_148 d_187_25 ow_187 rs_10_268 kk_188 rfl (s188 hL) rfl rfl rfl rfl (fun v4 M5 => ?_))
    try dsimp only
    refine zX_zne (p1 := 33) (p2 := 31) d_187_28 (by decide) rfl ?_ ?_
    · refine zX_aln0 (p := 34) d_187_33 rfl (zX_gi (p := 37) d_187_34 ow_187 gf_10_166 zo_148 rfl ?_)
      refine zX_zeq (p1 := 48) (p2 := 40) d_187_37 (by decide) rfl ?_ ?_
      · refine zX_ic (p := 49) d_187_48 ci_1 rfl (zX_goto (p := 53) d_187_49 (by decide) ?_)
        exact zX_retmb d_187_53 rt_187 (Or.inr rfl)
      · refine zX_aln0 (p := 41) d_187_40 rfl (zX_ic (p := 42) d_187_41 ci_1 rfl (zX_cV1m (p := 45) ⟨ow_170, by decide⟩ zo_148 d_187_42 ow_187 rs_10_187 kk_170 rfl (s170 hL) rfl rfl rfl rfl (fun v6 M7 => ?_)))
        try dsimp only
        refine zX_zeq (p1 := 52) (p2 := 48) d_187_45 (by decide) rfl ?_ ?_
        · refine zX_ic (p := 53) d_187_52 ci_0 rfl ?_
          exact zX_retmb d_187_53 rt_187 (Or.inl rfl)
        · refine zX_ic (p := 49) d_187_48 ci_1 rfl (zX_goto (p := 53) d_187_49 (by decide) ?_)
          exact zX_retmb d_187_53 rt_187 (Or.inr rfl)
    · refine zX_ic (p := 32) d_187_31 ci_0 rfl ?_
      exact zX_retmb d_187_32 rt_187 (Or.inl rfl)
  · refine zX_ic (p := 23) d_187_22 ci_1 rfl ?_
    exact zX_retmb d_187_23 rt_187 (Or.inr rfl)

theorem s167 {q : ZQ} {d : Nat} (hL : zLay q) {a1 : Int32} {M : ZI} : zX q (d + 87) 167 0 [.val (.ref 148), .val (.int a1)] [] M (f167_reads a1 M) zEm := by
  unfold f167_reads
  refine zX_iln1 (p := 1) d_167_0 rfl ?_
  refine zX_ite (fun hs1_0 => ?_) (fun hs1_0 => ?_)
  · refine zX_tsh (p := 28) (n := 0) d_167_1 hs1_0 (by decide) (by decide) (by decide) rfl (by decide) ?_
    refine zX_aln0 (p := 29) d_167_28 rfl (zX_cV0m (p := 32) ⟨ow_168, by decide⟩ zo_148 d_167_29 ow_167 rs_10_271 kk_168 rfl (s168 hL) rfl rfl rfl rfl (fun v1 M2 => ?_))
    try dsimp only
    exact zX_retmg d_167_32 rt_167
  refine zX_ite (fun hs1_1 => ?_) (fun hs1_1 => ?_)
  · refine zX_tsh (p := 33) (n := 1) d_167_1 hs1_1 (by decide) (by decide) (by decide) rfl (by decide) ?_
    refine zX_aln0 (p := 34) d_167_33 rfl (zX_cV0m (p := 37) ⟨ow_180, by decide⟩ zo_148 d_167_34 ow_167 rs_10_274 kk_180 rfl (s180 hL) rfl rfl rfl rfl (fun v3 M4 => ?_))
    try dsimp only
    exact zX_retmg d_167_37 rt_167
  refine zX_ite (fun hs1_2 => ?_) (fun hs1_2 => ?_)
  · refine zX_tsh (p := 38) (n := 2) d_167_1 hs1_2 (by decide) (by decide) (by decide) rfl (by decide) ?_
    refine zX_aln0 (p := 39) d_167_38 rfl (zX_cV0m (p := 42) ⟨ow_183, by decide⟩ zo_148 d_167_39 ow_167 rs_10_277 kk_183 rfl (s183 hL) rfl rfl rfl rfl (fun v5 M6 => ?_))
    try dsimp only
    exact zX_retmg d_167_42 rt_167
  have hz1 : (a1 : Int32).toInt < 0 ∨ 2 < (a1 : Int32).toInt := by
    have := zne_i (n := 0) (by decide) hs1_0
    have := zne_i (n := 1) (by decide) hs1_1
    have := zne_i (n := 2) (by decide) hs1_2
    omega
  refine zX_tsd (p := 43) d_167_1 hz1 (by decide) ?_
  refine zX_aln0 (p := 44) d_167_43 rfl (zX_cV0m (p := 47) ⟨ow_187, by decide⟩ zo_148 d_167_44 ow_167 rs_10_280 kk_187 rfl (s187 hL) rfl rfl rfl rfl (fun v7 M8 => ?_))
  try dsimp only
  exact zX_retmg d_167_47 rt_167

theorem s193_l13 {q : ZQ} {d : Nat} (hL : zLay q)  : ∀ (n : Nat) (x2 : Int32) (M3 : ZI), zX q d 193 13 [.val (.ref 148), .val (.int x2)] [] M3 (f193_l13 n x2 M3) (zEj q d 193 105 (fun (b : ZI) (s : Slot) => [.val (.ref 148), s]) (fun b => []) (fun b => b)) := by
  intro n
  induction n with
  | zero => intros; exact zX_none
  | succ n ih =>
    intro x2 M3
    rw [f193_l13]
    refine zX_iln1 (p := 14) d_193_13 rfl (zX_aln0 (p := 15) d_193_14 rfl (zX_gi (p := 18) d_193_15 ow_193 gf_10_227 zo_148 rfl ?_))
    refine zX_cge (p1 := 105) (p2 := 21) d_193_18 (by decide) rfl ?_ ?_
    · exact zX_leaf (fun _ _ h => h (.val (.int x2)))
    · refine zX_aln0 (p := 22) d_193_21 rfl (zX_gr (p := 25) (b := 149) d_193_22 ow_193 gf_10_7 zo_148 (zr_10_0 hL zo_148) rfl (zX_si (p := 28) d_193_25 cs_1178 rfl (zX_iln1 (p := 29) d_193_28 rfl (zX_add (p := 30) d_193_29 rfl (zX_aln0 (p := 31) d_193_30 rfl (zX_gr (p := 34) (b := 153) d_193_31 ow_193 gf_10_22 zo_148 (zr_10_6 hL zo_148) rfl (zX_ic (p := 35) d_193_34 ci_4 rfl ?_)))))))
      refine zX_iln1 (p := 36) d_193_35 rfl (zX_mul (p := 37) d_193_36 rfl (zX_iag (p := 38) d_193_37 za_153 rfl (zX_itg (p := 39) d_193_38 za_149 rfl (fun M4 => ?_))))
      refine zX_aln0 (p := 40) d_193_39 rfl (zX_gr (p := 43) (b := 149) d_193_40 ow_193 gf_10_7 zo_148 (zr_10_0 hL zo_148) rfl (zX_si (p := 46) d_193_43 cs_1194 rfl (zX_iln1 (p := 47) d_193_46 rfl (zX_add (p := 48) d_193_47 rfl (zX_aln0 (p := 49) d_193_48 rfl (zX_gr (p := 52) (b := 153) d_193_49 ow_193 gf_10_22 zo_148 (zr_10_6 hL zo_148) rfl (zX_ic (p := 53) d_193_52 ci_4 rfl ?_)))))))
      refine zX_iln1 (p := 54) d_193_53 rfl (zX_mul (p := 55) d_193_54 rfl (zX_ic (p := 56) d_193_55 ci_1 rfl (zX_add (p := 57) d_193_56 rfl (zX_iag (p := 58) d_193_57 za_153 rfl (zX_itg (p := 59) d_193_58 za_149 rfl (fun M5 => ?_))))))
      refine zX_aln0 (p := 60) d_193_59 rfl (zX_gr (p := 63) (b := 149) d_193_60 ow_193 gf_10_7 zo_148 (zr_10_0 hL zo_148) rfl (zX_si (p := 66) d_193_63 cs_1210 rfl (zX_iln1 (p := 67) d_193_66 rfl (zX_add (p := 68) d_193_67 rfl (zX_aln0 (p := 69) d_193_68 rfl (zX_gr (p := 72) (b := 153) d_193_69 ow_193 gf_10_22 zo_148 (zr_10_6 hL zo_148) rfl (zX_ic (p := 73) d_193_72 ci_4 rfl ?_)))))))
      refine zX_iln1 (p := 74) d_193_73 rfl (zX_mul (p := 75) d_193_74 rfl (zX_ic (p := 76) d_193_75 ci_2 rfl (zX_add (p := 77) d_193_76 rfl (zX_iag (p := 78) d_193_77 za_153 rfl (zX_itg (p := 79) d_193_78 za_149 rfl (fun M6 => ?_))))))
      refine zX_aln0 (p := 80) d_193_79 rfl (zX_gr (p := 83) (b := 149) d_193_80 ow_193 gf_10_7 zo_148 (zr_10_0 hL zo_148) rfl (zX_si (p := 86) d_193_83 cs_1226 rfl (zX_iln1 (p := 87) d_193_86 rfl (zX_add (p := 88) d_193_87 rfl (zX_aln0 (p := 89) d_193_88 rfl (zX_gr (p := 92) (b := 153) d_193_89 ow_193 gf_10_22 zo_148 (zr_10_6 hL zo_148) rfl (zX_ic (p := 93) d_193_92 ci_4 rfl ?_)))))))
      refine zX_iln1 (p := 94) d_193_93 rfl (zX_mul (p := 95) d_193_94 rfl (zX_ic (p := 96) d_193_95 ci_3 rfl (zX_add (p := 97) d_193_96 rfl (zX_iag (p := 98) d_193_97 za_153 rfl (zX_itg (p := 99) d_193_98 za_149 rfl (fun M7 => ?_))))))
      refine zX_ii1 (p := 102) d_193_99 ci_1 rfl (zX_goto (p := 13) d_193_102 (by decide) ?_)
      exact ih (x2 + (1 : Int32)) M7

theorem s193_l107 {q : ZQ} {d : Nat} (hL : zLay q)  : ∀ (n : Nat) (x10 : Int32) (M11 : ZI), zX q d 193 107 [.val (.ref 148), .val (.int x10)] [] M11 (f193_l107 n x10 M11) (zEj q d 193 139 (fun (b : ZI) (s : Slot) => [.val (.ref 148), s]) (fun b => []) (fun b => b)) := by
  intro n
  induction n with
  | zero => intros; exact zX_none
  | succ n ih =>
    intro x10 M11
    rw [f193_l107]
    refine zX_iln1 (p := 108) d_193_107 rfl (zX_ic (p := 109) d_193_108 ci_2 rfl (zX_aln0 (p := 110) d_193_109 rfl (zX_gi (p := 113) d_193_110 ow_193 gf_10_193 zo_148 rfl (zX_mul (p := 114) d_193_113 rfl ?_))))
    refine zX_cge (p1 := 139) (p2 := 117) d_193_114 (by decide) rfl ?_ ?_
    · exact zX_leaf (fun _ _ h => h (.val (.int x10)))
    · refine zX_aln0 (p := 118) d_193_117 rfl (zX_gr (p := 121) (b := 149) d_193_118 ow_193 gf_10_7 zo_148 (zr_10_0 hL zo_148) rfl (zX_si (p := 124) d_193_121 cs_1244 rfl (zX_iln1 (p := 125) d_193_124 rfl (zX_add (p := 126) d_193_125 rfl (zX_aln0 (p := 127) d_193_126 rfl (zX_gr (p := 130) (b := 154) d_193_127 ow_193 gf_10_25 zo_148 (zr_10_7 hL zo_148) rfl (zX_iln1 (p := 131) d_193_130 rfl ?_)))))))
      refine zX_iag (p := 132) d_193_131 za_154 rfl (zX_itg (p := 133) d_193_132 za_149 rfl (fun M12 => ?_))
      refine zX_ii1 (p := 136) d_193_133 ci_1 rfl (zX_goto (p := 107) d_193_136 (by decide) ?_)
      exact ih (x10 + (1 : Int32)) M12

theorem s193 {q : ZQ} {d : Nat} (hL : zLay q) {M : ZI} : zX q d 193 0 [.val (.ref 148), .unset] [] M (f193_putsLaw M) zEm := by
  unfold f193_putsLaw
  refine zX_aln0 (p := 1) d_193_0 rfl (zX_gr (p := 4) (b := 149) d_193_1 ow_193 gf_10_7 zo_148 (zr_10_0 hL zo_148) rfl (zX_bi (p := 6) d_193_4 cb_58 rfl (zX_aln0 (p := 7) d_193_6 rfl (zX_gi (p := 10) d_193_7 ow_193 gf_10_227 zo_148 rfl (zX_itc (p := 11) d_193_10 za_149 rfl zin_58_2064 zi_58 (fun M1 => ?_))))))
  refine zX_ic (p := 12) d_193_11 ci_0 rfl (zX_isn1 (p := 13) d_193_12 rfl ?_)
  refine zX_bind (s193_l13 hL zfu (0 : Int32) M1) ?_
  rintro M8 s9
  try dsimp only
  refine zX_ic (p := 106) d_193_105 ci_0 rfl (zX_isn1 (p := 107) d_193_106 rfl ?_)
  refine zX_bind (s193_l107 hL zfu (0 : Int32) M8) ?_
  rintro M13 s14
  try dsimp only
  refine zX_aln0 (p := 140) d_193_139 rfl (zX_gi (p := 143) d_193_140 ow_193 gf_10_227 zo_148 rfl ?_)
  exact zX_retm d_193_143 rt_193

theorem s194_l13 {q : ZQ} {d : Nat} (hL : zLay q)  : ∀ (n : Nat) (x2 : Int32) (M3 : ZI), zX q (d + 1) 194 13 [.val (.ref 148), .val (.int x2)] [] M3 (f194_l13 n x2 M3) (zEj q (d + 1) 194 40 (fun (b : ZI) (s : Slot) => [.val (.ref 148), s]) (fun b => []) (fun b => b)) := by
  intro n
  induction n with
  | zero => intros; exact zX_none
  | succ n ih =>
    intro x2 M3
    rw [f194_l13]
    refine zX_iln1 (p := 14) d_194_13 rfl (zX_bi (p := 16) d_194_14 cb_10 rfl ?_)
    refine zX_cge (p1 := 40) (p2 := 19) d_194_16 (by decide) rfl ?_ ?_
    · exact zX_leaf (fun _ _ h => h (.val (.int x2)))
    · refine zX_aln0 (p := 20) d_194_19 rfl (zX_gr (p := 23) (b := 149) d_194_20 ow_194 gf_10_7 zo_148 (zr_10_0 hL zo_148) rfl (zX_bi (p := 25) d_194_23 cb_80 rfl (zX_iln1 (p := 26) d_194_25 rfl (zX_add (p := 27) d_194_26 rfl (zX_aln0 (p := 28) d_194_27 rfl (zX_gr (p := 31) (b := 155) d_194_28 ow_194 gf_10_28 zo_148 (zr_10_8 hL zo_148) rfl (zX_iln1 (p := 32) d_194_31 rfl ?_)))))))
      refine zX_iag (p := 33) d_194_32 za_155 rfl (zX_itg (p := 34) d_194_33 za_149 rfl (fun M4 => ?_))
      refine zX_ii1 (p := 37) d_194_34 ci_1 rfl (zX_goto (p := 13) d_194_37 (by decide) ?_)
      exact ih (x2 + (1 : Int32)) M4

theorem s194 {q : ZQ} {d : Nat} (hL : zLay q) {M : ZI} : zX q (d + 1) 194 0 [.val (.ref 148), .unset] [] M (f194_putsVoices M) zEm := by
  unfold f194_putsVoices
  refine zX_aln0 (p := 1) d_194_0 rfl (zX_gr (p := 4) (b := 149) d_194_1 ow_194 gf_10_7 zo_148 (zr_10_0 hL zo_148) rfl (zX_bi (p := 6) d_194_4 cb_51 rfl (zX_aln0 (p := 7) d_194_6 rfl (zX_gi (p := 10) d_194_7 ow_194 gf_10_240 zo_148 rfl (zX_itc (p := 11) d_194_10 za_149 rfl zin_51_2064 zi_51 (fun M1 => ?_))))))
  refine zX_ic (p := 12) d_194_11 ci_0 rfl (zX_isn1 (p := 13) d_194_12 rfl ?_)
  refine zX_bind (s194_l13 hL zfu (0 : Int32) M1) ?_
  rintro M5 s6
  try dsimp only
  refine zX_aln0 (p := 41) d_194_40 rfl (zX_cV0v (p := 44) ⟨ow_147, by decide⟩ zo_148 d_194_41 ow_194 rs_10_60 kk_147 rfl (s147 hL) rfl rfl rfl rfl (fun M7 => ?_))
  refine zX_aln0 (p := 45) d_194_44 rfl (zX_gi (p := 48) d_194_45 ow_194 gf_10_240 zo_148 rfl ?_)
  exact zX_retm d_194_48 rt_194

theorem s195_l21 {q : ZQ} {d : Nat} (hL : zLay q)  : ∀ (n : Nat) (x3 : Int32) (M4 : ZI), zX q (d + 1) 195 21 [.val (.ref 148), .val (.int x3)] [] M4 (f195_l21 n x3 M4) (zEj q (d + 1) 195 53 (fun (b : ZI) (s : Slot) => [.val (.ref 148), s]) (fun b => []) (fun b => b)) := by
  intro n
  induction n with
  | zero => intros; exact zX_none
  | succ n ih =>
    intro x3 M4
    rw [f195_l21]
    refine zX_iln1 (p := 22) d_195_21 rfl (zX_bi (p := 24) d_195_22 cb_6 rfl (zX_aln0 (p := 25) d_195_24 rfl (zX_gi (p := 28) d_195_25 ow_195 gf_10_240 zo_148 rfl (zX_mul (p := 29) d_195_28 rfl ?_))))
    refine zX_cge (p1 := 53) (p2 := 32) d_195_29 (by decide) rfl ?_ ?_
    · exact zX_leaf (fun _ _ h => h (.val (.int x3)))
    · refine zX_aln0 (p := 33) d_195_32 rfl (zX_gr (p := 36) (b := 149) d_195_33 ow_195 gf_10_7 zo_148 (zr_10_0 hL zo_148) rfl (zX_bi (p := 38) d_195_36 cb_90 rfl (zX_iln1 (p := 39) d_195_38 rfl (zX_add (p := 40) d_195_39 rfl (zX_aln0 (p := 41) d_195_40 rfl (zX_gr (p := 44) (b := 156) d_195_41 ow_195 gf_10_31 zo_148 (zr_10_9 hL zo_148) rfl (zX_iln1 (p := 45) d_195_44 rfl ?_)))))))
      refine zX_iag (p := 46) d_195_45 za_156 rfl (zX_itg (p := 47) d_195_46 za_149 rfl (fun M5 => ?_))
      refine zX_ii1 (p := 50) d_195_47 ci_1 rfl (zX_goto (p := 21) d_195_50 (by decide) ?_)
      exact ih (x3 + (1 : Int32)) M5

theorem s195 {q : ZQ} {d : Nat} (hL : zLay q) {M : ZI} : zX q (d + 1) 195 0 [.val (.ref 148), .unset] [] M (f195_putsWorks M) zEm := by
  unfold f195_putsWorks
  refine zX_aln0 (p := 1) d_195_0 rfl (zX_gr (p := 4) (b := 149) d_195_1 ow_195 gf_10_7 zo_148 (zr_10_0 hL zo_148) rfl (zX_bi (p := 6) d_195_4 cb_52 rfl (zX_aln0 (p := 7) d_195_6 rfl (zX_gi (p := 10) d_195_7 ow_195 gf_10_240 zo_148 rfl (zX_itc (p := 11) d_195_10 za_149 rfl zin_52_2064 zi_52 (fun M1 => ?_))))))
  refine zX_aln0 (p := 12) d_195_11 rfl (zX_gr (p := 15) (b := 149) d_195_12 ow_195 gf_10_7 zo_148 (zr_10_0 hL zo_148) rfl (zX_bi (p := 17) d_195_15 cb_6 rfl (zX_ic (p := 18) d_195_17 ci_0 rfl (zX_itc (p := 19) d_195_18 za_149 rfl zin_6_2064 zi_6 (fun M2 => ?_)))))
  refine zX_ic (p := 20) d_195_19 ci_0 rfl (zX_isn1 (p := 21) d_195_20 rfl ?_)
  refine zX_bind (s195_l21 hL zfu (0 : Int32) M2) ?_
  rintro M6 s7
  try dsimp only
  refine zX_aln0 (p := 54) d_195_53 rfl (zX_cV0v (p := 57) ⟨ow_147, by decide⟩ zo_148 d_195_54 ow_195 rs_10_60 kk_147 rfl (s147 hL) rfl rfl rfl rfl (fun M8 => ?_))
  refine zX_aln0 (p := 58) d_195_57 rfl (zX_gi (p := 61) d_195_58 ow_195 gf_10_240 zo_148 rfl ?_)
  exact zX_retm d_195_61 rt_195

theorem s196_l24 {q : ZQ} {d : Nat} (hL : zLay q)  : ∀ (n : Nat) (x3 : Int32) (M4 : ZI), zX q d 196 24 [.val (.ref 148), .val (.int x3)] [] M4 (f196_l24 n x3 M4) (zEj q d 196 54 (fun (b : ZI) (s : Slot) => [.val (.ref 148), s]) (fun b => []) (fun b => b)) := by
  intro n
  induction n with
  | zero => intros; exact zX_none
  | succ n ih =>
    intro x3 M4
    rw [f196_l24]
    refine zX_iln1 (p := 25) d_196_24 rfl (zX_aln0 (p := 26) d_196_25 rfl (zX_gi (p := 29) d_196_26 ow_196 gf_10_256 zo_148 rfl ?_))
    refine zX_cge (p1 := 54) (p2 := 32) d_196_29 (by decide) rfl ?_ ?_
    · exact zX_leaf (fun _ _ h => h (.val (.int x3)))
    · refine zX_aln0 (p := 33) d_196_32 rfl (zX_gr (p := 36) (b := 149) d_196_33 ow_196 gf_10_7 zo_148 (zr_10_0 hL zo_148) rfl (zX_si (p := 39) d_196_36 cs_162 rfl (zX_iln1 (p := 40) d_196_39 rfl (zX_add (p := 41) d_196_40 rfl (zX_aln0 (p := 42) d_196_41 rfl (zX_gr (p := 45) (b := 157) d_196_42 ow_196 gf_10_34 zo_148 (zr_10_10 hL zo_148) rfl (zX_iln1 (p := 46) d_196_45 rfl ?_)))))))
      refine zX_iag (p := 47) d_196_46 za_157 rfl (zX_itg (p := 48) d_196_47 za_149 rfl (fun M5 => ?_))
      refine zX_ii1 (p := 51) d_196_48 ci_1 rfl (zX_goto (p := 24) d_196_51 (by decide) ?_)
      exact ih (x3 + (1 : Int32)) M5

theorem s196 {q : ZQ} {d : Nat} (hL : zLay q) {M : ZI} : zX q d 196 0 [.val (.ref 148), .unset] [] M (f196_putsCouncil M) zEm := by
  unfold f196_putsCouncil
  refine zX_aln0 (p := 1) d_196_0 rfl (zX_gr (p := 4) (b := 149) d_196_1 ow_196 gf_10_7 zo_148 (zr_10_0 hL zo_148) rfl (zX_bi (p := 6) d_196_4 cb_53 rfl (zX_aln0 (p := 7) d_196_6 rfl (zX_gi (p := 10) d_196_7 ow_196 gf_10_240 zo_148 rfl (zX_itc (p := 11) d_196_10 za_149 rfl zin_53_2064 zi_53 (fun M1 => ?_))))))
  refine zX_aln0 (p := 12) d_196_11 rfl (zX_gr (p := 15) (b := 149) d_196_12 ow_196 gf_10_7 zo_148 (zr_10_0 hL zo_148) rfl (zX_bi (p := 17) d_196_15 cb_54 rfl (zX_aln0 (p := 18) d_196_17 rfl (zX_gi (p := 21) d_196_18 ow_196 gf_10_256 zo_148 rfl (zX_itc (p := 22) d_196_21 za_149 rfl zin_54_2064 zi_54 (fun M2 => ?_))))))
  refine zX_ic (p := 23) d_196_22 ci_0 rfl (zX_isn1 (p := 24) d_196_23 rfl ?_)
  refine zX_bind (s196_l24 hL zfu (0 : Int32) M2) ?_
  rintro M6 s7
  try dsimp only
  refine zX_aln0 (p := 55) d_196_54 rfl (zX_gi (p := 58) d_196_55 ow_196 gf_10_240 zo_148 rfl ?_)
  exact zX_retm d_196_58 rt_196

theorem s192 {q : ZQ} {d : Nat} (hL : zLay q) {a1 : Int32} {M : ZI} : zX q (d + 2) 192 0 [.val (.ref 148), .val (.int a1)] [] M (f192_putsText a1 M) zEm := by
  unfold f192_putsText
  refine zX_iln1 (p := 1) d_192_0 rfl ?_
  refine zX_ite (fun hs1_0 => ?_) (fun hs1_0 => ?_)
  · refine zX_tsh (p := 28) (n := 0) d_192_1 hs1_0 (by decide) (by decide) (by decide) rfl (by decide) ?_
    refine zX_aln0 (p := 29) d_192_28 rfl (zX_cV0m (p := 32) ⟨ow_193, by decide⟩ zo_148 d_192_29 ow_192 rs_10_283 kk_193 rfl (s193 hL) rfl rfl rfl rfl (fun v1 M2 => ?_))
    try dsimp only
    exact zX_retm d_192_32 rt_192
  refine zX_ite (fun hs1_1 => ?_) (fun hs1_1 => ?_)
  · refine zX_tsh (p := 33) (n := 1) d_192_1 hs1_1 (by decide) (by decide) (by decide) rfl (by decide) ?_
    refine zX_aln0 (p := 34) d_192_33 rfl (zX_cV0m (p := 37) ⟨ow_194, by decide⟩ zo_148 d_192_34 ow_192 rs_10_286 kk_194 rfl (s194 hL) rfl rfl rfl rfl (fun v3 M4 => ?_))
    try dsimp only
    exact zX_retm d_192_37 rt_192
  refine zX_ite (fun hs1_2 => ?_) (fun hs1_2 => ?_)
  · refine zX_tsh (p := 38) (n := 2) d_192_1 hs1_2 (by decide) (by decide) (by decide) rfl (by decide) ?_
    refine zX_aln0 (p := 39) d_192_38 rfl (zX_cV0m (p := 42) ⟨ow_195, by decide⟩ zo_148 d_192_39 ow_192 rs_10_289 kk_195 rfl (s195 hL) rfl rfl rfl rfl (fun v5 M6 => ?_))
    try dsimp only
    exact zX_retm d_192_42 rt_192
  have hz1 : (a1 : Int32).toInt < 0 ∨ 2 < (a1 : Int32).toInt := by
    have := zne_i (n := 0) (by decide) hs1_0
    have := zne_i (n := 1) (by decide) hs1_1
    have := zne_i (n := 2) (by decide) hs1_2
    omega
  refine zX_tsd (p := 43) d_192_1 hz1 (by decide) ?_
  refine zX_aln0 (p := 44) d_192_43 rfl (zX_cV0m (p := 47) ⟨ow_196, by decide⟩ zo_148 d_192_44 ow_192 rs_10_292 kk_196 rfl (s196 hL) rfl rfl rfl rfl (fun v7 M8 => ?_))
  try dsimp only
  exact zX_retm d_192_47 rt_192

theorem s156 {q : ZQ} {d : Nat} (hL : zLay q) {a1 : Int32} {M : ZI} : zX q (d + 88) 156 0 [.val (.ref 148), .val (.int a1), .unset] [] M (f156_text a1 M) zEm := by
  unfold f156_text
  refine zX_aln0 (p := 1) d_156_0 rfl (zX_ic (p := 2) d_156_1 ci_0 rfl (zX_pi (p := 5) d_156_2 ow_156 gf_10_295 zo_148 rfl (fun M1 => ?_)))
  refine zX_aln0 (p := 6) d_156_5 rfl (zX_ic (p := 7) d_156_6 ci_m1 rfl (zX_pi (p := 10) d_156_7 ow_156 gf_10_46 zo_148 rfl (fun M2 => ?_)))
  refine zX_iln1 (p := 11) d_156_10 rfl (zX_ic (p := 12) d_156_11 ci_0 rfl (zX_ic (p := 13) d_156_12 ci_3 rfl (zX_cS3i (p := 16) d_156_13 ow_156 rs_10_53 kk_149 rfl (s149 hL) rfl rfl rfl rfl (fun v3 => ?_))))
  refine zX_zne (p1 := 26) (p2 := 19) d_156_16 (by decide) rfl ?_ ?_
  · refine zX_aln0 (p := 27) d_156_26 rfl (zX_ic (p := 28) d_156_27 ci_0 rfl (zX_pi (p := 31) d_156_28 ow_156 gf_10_181 zo_148 rfl (fun M4 => ?_)))
    refine zX_aln0 (p := 32) d_156_31 rfl (zX_ic (p := 33) d_156_32 ci_0 rfl (zX_pi (p := 36) d_156_33 ow_156 gf_10_79 zo_148 rfl (fun M5 => ?_)))
    refine zX_aln0 (p := 37) d_156_36 rfl (zX_iln1 (p := 38) d_156_37 rfl (zX_pi (p := 41) d_156_38 ow_156 gf_10_148 zo_148 rfl (fun M6 => ?_)))
    refine zX_aln0 (p := 42) d_156_41 rfl (zX_cV0v (p := 45) ⟨ow_157, by decide⟩ zo_148 d_156_42 ow_156 rs_10_190 kk_157 rfl (s157 hL) rfl rfl rfl rfl (fun M7 => ?_))
    refine zX_aln0 (p := 46) d_156_45 rfl (zX_iln1 (p := 47) d_156_46 rfl (zX_cV1m (p := 50) ⟨ow_167, by decide⟩ zo_148 d_156_47 ow_156 rs_10_298 kk_167 rfl (s167 hL) rfl rfl rfl rfl (fun v8 M9 => ?_)))
    try dsimp only
    refine zX_isn2 (p := 51) d_156_50 rfl (zX_aln0 (p := 52) d_156_51 rfl (zX_ic (p := 53) d_156_52 ci_0 rfl (zX_pi (p := 56) d_156_53 ow_156 gf_10_76 zo_148 rfl (fun M10 => ?_))))
    refine zX_iln2 (p := 57) d_156_56 rfl ?_
    refine zX_zeq (p1 := 66) (p2 := 60) d_156_57 (by decide) rfl ?_ ?_
    · refine zX_aln0 (p := 67) d_156_66 rfl (zX_aln0 (p := 68) d_156_67 rfl (zX_gi (p := 71) d_156_68 ow_156 gf_10_181 zo_148 rfl (zX_pi (p := 74) d_156_71 ow_156 gf_10_295 zo_148 rfl (fun M11 => ?_))))
      refine zX_aln0 (p := 75) d_156_74 rfl (zX_aln0 (p := 76) d_156_75 rfl (zX_gi (p := 79) d_156_76 ow_156 gf_10_184 zo_148 rfl (zX_pi (p := 82) d_156_79 ow_156 gf_10_46 zo_148 rfl (fun M12 => ?_))))
      refine zX_ic (p := 83) d_156_82 ci_m1 rfl ?_
      exact zX_retm d_156_83 rt_156
    · refine zX_aln0 (p := 61) d_156_60 rfl (zX_iln1 (p := 62) d_156_61 rfl (zX_cV1m (p := 65) ⟨ow_192, by decide⟩ zo_148 d_156_62 ow_156 rs_10_301 kk_192 rfl (s192 hL) rfl rfl rfl rfl (fun v13 M14 => ?_)))
      try dsimp only
      exact zX_retm d_156_65 rt_156
  · refine zX_aln0 (p := 20) d_156_19 rfl (zX_ic (p := 21) d_156_20 ci_0 rfl (zX_pi (p := 24) d_156_21 ow_156 gf_10_76 zo_148 rfl (fun M15 => ?_)))
    refine zX_ic (p := 25) d_156_24 ci_m1 rfl ?_
    exact zX_retm d_156_25 rt_156

theorem s197 {q : ZQ} {d : Nat} (hL : zLay q) {a1 : Int32} {M : ZI} : zX q d 197 0 [.val (.ref 148), .val (.int a1)] [] M (f197_fault a1 M) (zEi M) := by
  unfold f197_fault
  refine zX_iln1 (p := 1) d_197_0 rfl ?_
  refine zX_zne (p1 := 11) (p2 := 4) d_197_1 (by decide) rfl ?_ ?_
  · refine zX_iln1 (p := 12) d_197_11 rfl (zX_ic (p := 13) d_197_12 ci_1 rfl ?_)
    refine zX_cne (p1 := 23) (p2 := 16) d_197_13 (by decide) rfl ?_ ?_
    · refine zX_ic (p := 24) d_197_23 ci_m1 rfl ?_
      exact zX_reti d_197_24 rt_197
    · refine zX_aln0 (p := 17) d_197_16 rfl (zX_gi (p := 20) d_197_17 ow_197 gf_10_46 zo_148 rfl (zX_goto (p := 24) d_197_20 (by decide) ?_))
      exact zX_reti d_197_24 rt_197
  · refine zX_aln0 (p := 5) d_197_4 rfl (zX_gi (p := 8) d_197_5 ow_197 gf_10_295 zo_148 rfl (zX_goto (p := 24) d_197_8 (by decide) ?_))
    exact zX_reti d_197_24 rt_197

theorem s198_l21 {q : ZQ} {d : Nat} (hL : zLay q)  : ∀ (n : Nat) (x2 : Int32) (M3 : ZI), zX q d 198 21 [.val (.ref 148), .val (.int x2)] [] M3 (f198_l21 n x2 M3) (zEj q d 198 53 (fun (b : ZI) (s : Slot) => [.val (.ref 148), s]) (fun b => []) (fun b => b)) := by
  intro n
  induction n with
  | zero => intros; exact zX_none
  | succ n ih =>
    intro x2 M3
    rw [f198_l21]
    refine zX_iln1 (p := 22) d_198_21 rfl (zX_bi (p := 24) d_198_22 cb_48 rfl ?_)
    refine zX_cge (p1 := 53) (p2 := 27) d_198_24 (by decide) rfl ?_ ?_
    · exact zX_leaf (fun _ _ h => h (.val (.int x2)))
    · refine zX_aln0 (p := 28) d_198_27 rfl (zX_gr (p := 31) (b := 149) d_198_28 ow_198 gf_10_7 zo_148 (zr_10_0 hL zo_148) rfl (zX_iln1 (p := 32) d_198_31 rfl (zX_aln0 (p := 33) d_198_32 rfl (zX_gr (p := 36) (b := 151) d_198_33 ow_198 gf_10_16 zo_148 (zr_10_2 hL zo_148) rfl (zX_bi (p := 38) d_198_36 cb_48 rfl (zX_aln0 (p := 39) d_198_38 rfl (zX_gi (p := 42) d_198_39 ow_198 gf_10_57 zo_148 rfl ?_)))))))
      refine zX_mul (p := 43) d_198_42 rfl (zX_iln1 (p := 44) d_198_43 rfl (zX_add (p := 45) d_198_44 rfl (zX_iag (p := 46) d_198_45 za_151 rfl (zX_itg (p := 47) d_198_46 za_149 rfl (fun M4 => ?_)))))
      refine zX_ii1 (p := 50) d_198_47 ci_1 rfl (zX_goto (p := 21) d_198_50 (by decide) ?_)
      exact ih (x2 + (1 : Int32)) M4

theorem s198 {q : ZQ} {d : Nat} (hL : zLay q) {M : ZI} : zX q d 198 0 [.val (.ref 148), .unset] [] M (f198_undo M) zEm := by
  unfold f198_undo
  refine zX_aln0 (p := 1) d_198_0 rfl (zX_gi (p := 4) d_198_1 ow_198 gf_10_57 zo_148 rfl ?_)
  refine zX_zne (p1 := 9) (p2 := 7) d_198_4 (by decide) rfl ?_ ?_
  · refine zX_aln0 (p := 10) d_198_9 rfl (zX_dup (p := 11) d_198_10 rfl rfl (zX_gi (p := 14) d_198_11 ow_198 gf_10_57 zo_148 rfl (zX_ic (p := 15) d_198_14 ci_1 rfl (zX_sub (p := 16) d_198_15 rfl (zX_pi (p := 19) d_198_16 ow_198 gf_10_57 zo_148 rfl (fun M1 => ?_))))))
    refine zX_ic (p := 20) d_198_19 ci_0 rfl (zX_isn1 (p := 21) d_198_20 rfl ?_)
    refine zX_bind (s198_l21 hL zfu (0 : Int32) M1) ?_
    rintro M5 s6
    try dsimp only
    refine zX_ic (p := 54) d_198_53 ci_1 rfl ?_
    exact zX_retmb d_198_54 rt_198 (Or.inr rfl)
  · refine zX_ic (p := 8) d_198_7 ci_0 rfl ?_
    exact zX_retmb d_198_8 rt_198 (Or.inl rfl)

theorem s200_l51 {q : ZQ} {d : Nat} (hL : zLay q)  : ∀ (n : Nat) (x3 : Int32) (M4 : ZI), zX q d 200 51 [.val (.ref 148), .val (.int x3)] [] M4 (f200_l51 n x3 M4) (zEj q d 200 83 (fun (b : ZI) (s : Slot) => [.val (.ref 148), s]) (fun b => []) (fun b => b)) := by
  intro n
  induction n with
  | zero => intros; exact zX_none
  | succ n ih =>
    intro x3 M4
    rw [f200_l51]
    refine zX_iln1 (p := 52) d_200_51 rfl (zX_bi (p := 54) d_200_52 cb_48 rfl ?_)
    refine zX_cge (p1 := 83) (p2 := 57) d_200_54 (by decide) rfl ?_ ?_
    · exact zX_leaf (fun _ _ h => h (.val (.int x3)))
    · refine zX_aln0 (p := 58) d_200_57 rfl (zX_gr (p := 61) (b := 151) d_200_58 ow_200 gf_10_16 zo_148 (zr_10_2 hL zo_148) rfl (zX_bi (p := 63) d_200_61 cb_48 rfl (zX_aln0 (p := 64) d_200_63 rfl (zX_gi (p := 67) d_200_64 ow_200 gf_10_57 zo_148 rfl (zX_mul (p := 68) d_200_67 rfl (zX_iln1 (p := 69) d_200_68 rfl (zX_add (p := 70) d_200_69 rfl ?_)))))))
      refine zX_aln0 (p := 71) d_200_70 rfl (zX_gr (p := 74) (b := 149) d_200_71 ow_200 gf_10_7 zo_148 (zr_10_0 hL zo_148) rfl (zX_iln1 (p := 75) d_200_74 rfl (zX_iag (p := 76) d_200_75 za_149 rfl (zX_itg (p := 77) d_200_76 za_151 rfl (fun M5 => ?_)))))
      refine zX_ii1 (p := 80) d_200_77 ci_1 rfl (zX_goto (p := 51) d_200_80 (by decide) ?_)
      exact ih (x3 + (1 : Int32)) M5

theorem s200_l11 {q : ZQ} {d : Nat} (hL : zLay q)  : ∀ (n : Nat) (x10 : Int32) (M11 : ZI), zX q d 200 11 [.val (.ref 148), .val (.int x10)] [] M11 (f200_l11 n x10 M11) (zEj q d 200 39 (fun (b : ZI) (s : Slot) => [.val (.ref 148), s]) (fun b => []) (fun b => b)) := by
  intro n
  induction n with
  | zero => intros; exact zX_none
  | succ n ih =>
    intro x10 M11
    rw [f200_l11]
    refine zX_iln1 (p := 12) d_200_11 rfl (zX_si (p := 15) d_200_12 cs_240 rfl ?_)
    refine zX_cge (p1 := 39) (p2 := 18) d_200_15 (by decide) rfl ?_ ?_
    · exact zX_leaf (fun _ _ h => h (.val (.int x10)))
    · refine zX_aln0 (p := 19) d_200_18 rfl (zX_gr (p := 22) (b := 151) d_200_19 ow_200 gf_10_16 zo_148 (zr_10_2 hL zo_148) rfl (zX_iln1 (p := 23) d_200_22 rfl (zX_aln0 (p := 24) d_200_23 rfl (zX_gr (p := 27) (b := 151) d_200_24 ow_200 gf_10_16 zo_148 (zr_10_2 hL zo_148) rfl (zX_iln1 (p := 28) d_200_27 rfl (zX_bi (p := 30) d_200_28 cb_48 rfl (zX_add (p := 31) d_200_30 rfl ?_)))))))
      refine zX_iag (p := 32) d_200_31 za_151 rfl (zX_itg (p := 33) d_200_32 za_151 rfl (fun M12 => ?_))
      refine zX_ii1 (p := 36) d_200_33 ci_1 rfl (zX_goto (p := 11) d_200_36 (by decide) ?_)
      exact ih (x10 + (1 : Int32)) M12

theorem s200 {q : ZQ} {d : Nat} (hL : zLay q) {M : ZI} : zX q d 200 0 [.val (.ref 148), .unset] [] M (f200_keeps M) zEv := by
  unfold f200_keeps
  refine zX_aln0 (p := 1) d_200_0 rfl (zX_gi (p := 4) d_200_1 ow_200 gf_10_57 zo_148 rfl (zX_bi (p := 6) d_200_4 cb_6 rfl ?_))
  refine zX_jn (P := fun g => ∀  (M1 : ZI) (s2 : Slot), zX q d 200 49 [.val (.ref 148), s2] [] M1 (g M1) zEv) ?_ (fun j9 hj9 => ?_)
  · intro M1 s2
    try dsimp only
    refine zX_ic (p := 50) d_200_49 ci_0 rfl (zX_isn1 (p := 51) d_200_50 rfl ?_)
    refine zX_bind (s200_l51 hL zfu (0 : Int32) M1) ?_
    rintro M6 s7
    try dsimp only
    refine zX_aln0 (p := 84) d_200_83 rfl (zX_dup (p := 85) d_200_84 rfl rfl (zX_gi (p := 88) d_200_85 ow_200 gf_10_57 zo_148 rfl (zX_ic (p := 89) d_200_88 ci_1 rfl (zX_add (p := 90) d_200_89 rfl (zX_pi (p := 93) d_200_90 ow_200 gf_10_57 zo_148 rfl (fun M8 => ?_))))))
    exact zX_retv d_200_93 rt_200
  · refine zX_cne (p1 := 49) (p2 := 9) d_200_6 (by decide) rfl ?_ ?_
    · exact hj9 M (.unset)
    · refine zX_ic (p := 10) d_200_9 ci_0 rfl (zX_isn1 (p := 11) d_200_10 rfl ?_)
      refine zX_bind (s200_l11 hL zfu (0 : Int32) M) ?_
      rintro M13 s14
      try dsimp only
      refine zX_aln0 (p := 40) d_200_39 rfl (zX_dup (p := 41) d_200_40 rfl rfl (zX_gi (p := 44) d_200_41 ow_200 gf_10_57 zo_148 rfl (zX_ic (p := 45) d_200_44 ci_1 rfl (zX_sub (p := 46) d_200_45 rfl (zX_pi (p := 49) d_200_46 ow_200 gf_10_57 zo_148 rfl (fun M15 => ?_))))))
      exact hj9 M15 (s14)

theorem s199 {q : ZQ} {d : Nat} (hL : zLay q) {a1 : Int32} {a2 : Int32} {a3 : Int32} {M : ZI} : zX q (d + 2) 199 0 [.val (.ref 148), .val (.int a1), .val (.int a2), .val (.int a3)] [] M (f199_tie a1 a2 a3 M) zEm := by
  unfold f199_tie
  refine zX_aln0 (p := 1) d_199_0 rfl (zX_iln1 (p := 2) d_199_1 rfl (zX_cV1i (p := 5) ⟨ow_152, by decide⟩ zo_148 d_199_2 ow_199 rs_10_65 kk_152 rfl (s152 hL) rfl rfl rfl rfl (fun v1 => ?_)))
  refine zX_zeq (p1 := 47) (p2 := 8) d_199_5 (by decide) rfl ?_ ?_
  · refine zX_ic (p := 48) d_199_47 ci_0 rfl ?_
    exact zX_retmb d_199_48 rt_199 (Or.inl rfl)
  · refine zX_aln0 (p := 9) d_199_8 rfl (zX_iln2 (p := 10) d_199_9 rfl (zX_cV1i (p := 13) ⟨ow_152, by decide⟩ zo_148 d_199_10 ow_199 rs_10_65 kk_152 rfl (s152 hL) rfl rfl rfl rfl (fun v2 => ?_)))
    refine zX_zeq (p1 := 47) (p2 := 16) d_199_13 (by decide) rfl ?_ ?_
    · refine zX_ic (p := 48) d_199_47 ci_0 rfl ?_
      exact zX_retmb d_199_48 rt_199 (Or.inl rfl)
    · refine zX_iln1 (p := 17) d_199_16 rfl (zX_iln2 (p := 18) d_199_17 rfl ?_)
      refine zX_ceq (p1 := 47) (p2 := 21) d_199_18 (by decide) rfl ?_ ?_
      · refine zX_ic (p := 48) d_199_47 ci_0 rfl ?_
        exact zX_retmb d_199_48 rt_199 (Or.inl rfl)
      · refine zX_aln0 (p := 22) d_199_21 rfl (zX_gr (p := 25) (b := 149) d_199_22 ow_199 gf_10_7 zo_148 (zr_10_0 hL zo_148) rfl (zX_bi (p := 27) d_199_25 cb_7 rfl (zX_iln1 (p := 28) d_199_27 rfl (zX_add (p := 29) d_199_28 rfl (zX_iag (p := 30) d_199_29 za_149 rfl (zX_iln2 (p := 31) d_199_30 rfl (zX_shr (p := 32) d_199_31 rfl ?_)))))))
        refine zX_ic (p := 33) d_199_32 ci_1 rfl (zX_and (p := 34) d_199_33 rfl (zX_ic (p := 35) d_199_34 ci_1 rfl ?_))
        refine zX_bind (σ := Unit) (β := Int32) (pj := 43) (lj := fun (b : Int32) (s : Unit) => [.val (.ref 148), .val (.int a1), .val (.int a2), .val (.int a3)]) (sj := fun b => [.int b]) (mj := fun b => M) ?_ ?_
        · refine zX_cne (p1 := 42) (p2 := 38) d_199_35 (by decide) rfl ?_ ?_
          · refine zX_ic (p := 43) d_199_42 ci_0 rfl ?_
            exact zX_leaf (fun _ _ h => h ())
          · refine zX_ic (p := 39) d_199_38 ci_1 rfl (zX_goto (p := 43) d_199_39 (by decide) ?_)
            exact zX_leaf (fun _ _ h => h ())
        · rintro v3 _
          try dsimp only
          refine zX_iln3 (p := 44) d_199_43 rfl ?_
          refine zX_cne (p1 := 49) (p2 := 47) d_199_44 (by decide) rfl ?_ ?_
          · refine zX_aln0 (p := 50) d_199_49 rfl (zX_cV0v (p := 53) ⟨ow_200, by decide⟩ zo_148 d_199_50 ow_199 rs_10_346 kk_200 rfl (s200 hL) rfl rfl rfl rfl (fun M4 => ?_))
            refine zX_aln0 (p := 54) d_199_53 rfl (zX_gr (p := 57) (b := 149) d_199_54 ow_199 gf_10_7 zo_148 (zr_10_0 hL zo_148) rfl (zX_bi (p := 59) d_199_57 cb_7 rfl (zX_iln1 (p := 60) d_199_59 rfl (zX_add (p := 61) d_199_60 rfl (zX_dup2 (p := 62) d_199_61 rfl rfl rfl (zX_iag (p := 63) d_199_62 za_149 rfl (zX_ic (p := 64) d_199_63 ci_1 rfl ?_)))))))
            refine zX_iln2 (p := 65) d_199_64 rfl (zX_shl (p := 66) d_199_65 rfl (zX_xor (p := 67) d_199_66 rfl (zX_itg (p := 68) d_199_67 za_149 rfl (fun M5 => ?_))))
            refine zX_aln0 (p := 69) d_199_68 rfl (zX_gr (p := 72) (b := 149) d_199_69 ow_199 gf_10_7 zo_148 (zr_10_0 hL zo_148) rfl (zX_bi (p := 74) d_199_72 cb_7 rfl (zX_iln2 (p := 75) d_199_74 rfl (zX_add (p := 76) d_199_75 rfl (zX_dup2 (p := 77) d_199_76 rfl rfl rfl (zX_iag (p := 78) d_199_77 za_149 rfl (zX_ic (p := 79) d_199_78 ci_1 rfl ?_)))))))
            refine zX_iln1 (p := 80) d_199_79 rfl (zX_shl (p := 81) d_199_80 rfl (zX_xor (p := 82) d_199_81 rfl (zX_itg (p := 83) d_199_82 za_149 rfl (fun M6 => ?_))))
            refine zX_ic (p := 84) d_199_83 ci_1 rfl ?_
            exact zX_retmb d_199_84 rt_199 (Or.inr rfl)
          · refine zX_ic (p := 48) d_199_47 ci_0 rfl ?_
            exact zX_retmb d_199_48 rt_199 (Or.inl rfl)

theorem s202 {q : ZQ} {d : Nat} (hL : zLay q) {a0 : Int32} {a1 : Int32} {M : ZI} : zX q d 202 0 [.val (.int a0), .val (.int a1)] [] M (f202_lesser a0 a1) (zEi M) := by
  unfold f202_lesser
  refine zX_iln0 (p := 1) d_202_0 rfl (zX_iln1 (p := 2) d_202_1 rfl ?_)
  refine zX_cge (p1 := 9) (p2 := 5) d_202_2 (by decide) rfl ?_ ?_
  · refine zX_iln1 (p := 10) d_202_9 rfl ?_
    exact zX_reti d_202_10 rt_202
  · refine zX_iln0 (p := 6) d_202_5 rfl (zX_goto (p := 10) d_202_6 (by decide) ?_)
    exact zX_reti d_202_10 rt_202

theorem s201 {q : ZQ} {d : Nat} (hL : zLay q) {a1 : Int32} {M : ZI} : zX q (d + 1) 201 0 [.val (.ref 148), .val (.int a1)] [] M (f201_sit a1 M) zEm := by
  unfold f201_sit
  refine zX_iln1 (p := 1) d_201_0 rfl (zX_ic (p := 2) d_201_1 ci_1 rfl (zX_bi (p := 4) d_201_2 cb_24 rfl (zX_cS3i (p := 7) d_201_4 ow_201 rs_10_53 kk_149 rfl (s149 hL) rfl rfl rfl rfl (fun v1 => ?_))))
  refine zX_zne (p1 := 12) (p2 := 10) d_201_7 (by decide) rfl ?_ ?_
  · refine zX_aln0 (p := 13) d_201_12 rfl (zX_cV0v (p := 16) ⟨ow_200, by decide⟩ zo_148 d_201_13 ow_201 rs_10_346 kk_200 rfl (s200 hL) rfl rfl rfl rfl (fun M2 => ?_))
    refine zX_aln0 (p := 17) d_201_16 rfl (zX_gr (p := 20) (b := 149) d_201_17 ow_201 gf_10_7 zo_148 (zr_10_0 hL zo_148) rfl (zX_ic (p := 21) d_201_20 ci_1 rfl (zX_bi (p := 23) d_201_21 cb_24 rfl (zX_aln0 (p := 24) d_201_23 rfl (zX_gr (p := 27) (b := 149) d_201_24 ow_201 gf_10_7 zo_148 (zr_10_0 hL zo_148) rfl (zX_ic (p := 28) d_201_27 ci_1 rfl (zX_iac (p := 29) d_201_28 za_149 rfl zin_1_2064 zi_1 ?_)))))))
    refine zX_iln1 (p := 30) d_201_29 rfl (zX_add (p := 31) d_201_30 rfl (zX_cS2i (p := 34) d_201_31 ow_201 rs_10_317 kk_202 rfl (s202 hL) rfl rfl rfl rfl (fun v3 => ?_)))
    refine zX_itc (p := 35) d_201_34 za_149 rfl zin_1_2064 zi_1 (fun M4 => ?_)
    refine zX_aln0 (p := 36) d_201_35 rfl (zX_gr (p := 39) (b := 149) d_201_36 ow_201 gf_10_7 zo_148 (zr_10_0 hL zo_148) rfl (zX_ic (p := 40) d_201_39 ci_1 rfl (zX_iac (p := 41) d_201_40 za_149 rfl zin_1_2064 zi_1 ?_)))
    exact zX_retm d_201_41 rt_201
  · refine zX_ic (p := 11) d_201_10 ci_m1 rfl ?_
    exact zX_retm d_201_11 rt_201

theorem s209_l4 {q : ZQ} {d : Nat} (hL : zLay q) {a0 : Int32} {M : ZI} : ∀ (n : Nat) (x1 : Int32) (x2 : Int32), zX q d 209 4 [.val (.int a0), .val (.int x1), .val (.int x2)] [] M (f209_l4 a0 n x1 x2) (zEj q d 209 24 (fun (b : Int32) (s : Slot) => [.val (.int a0), .val (.int b), s]) (fun b => []) (fun b => M)) := by
  intro n
  induction n with
  | zero => intros; exact zX_none
  | succ n ih =>
    intro x1 x2
    rw [f209_l4]
    refine zX_iln2 (p := 5) d_209_4 rfl (zX_bi (p := 7) d_209_5 cb_16 rfl ?_)
    refine zX_cge (p1 := 24) (p2 := 10) d_209_7 (by decide) rfl ?_ ?_
    · exact zX_leaf (fun _ _ h => h (.val (.int x2)))
    · refine zX_iln1 (p := 11) d_209_10 rfl (zX_iln0 (p := 12) d_209_11 rfl (zX_iln2 (p := 13) d_209_12 rfl (zX_shr (p := 14) d_209_13 rfl (zX_ic (p := 15) d_209_14 ci_1 rfl (zX_and (p := 16) d_209_15 rfl (zX_add (p := 17) d_209_16 rfl (zX_jsn1 (p := 18) d_209_17 rfl (fun x3 => ?_))))))))
      refine zX_ii2 (p := 21) d_209_18 ci_1 rfl (zX_goto (p := 4) d_209_21 (by decide) ?_)
      exact ih x3 (x2 + (1 : Int32))

theorem s209 {q : ZQ} {d : Nat} (hL : zLay q) {a0 : Int32} {M : ZI} : zX q d 209 0 [.val (.int a0), .unset, .unset] [] M (f209_count a0) (zEi M) := by
  unfold f209_count
  refine zX_ic (p := 1) d_209_0 ci_0 rfl (zX_isn1 (p := 2) d_209_1 rfl (zX_ic (p := 3) d_209_2 ci_0 rfl (zX_isn2 (p := 4) d_209_3 rfl ?_)))
  refine zX_bind (s209_l4 hL zfu (0 : Int32) (0 : Int32)) ?_
  rintro x4 s5
  try dsimp only
  refine zX_iln1 (p := 25) d_209_24 rfl ?_
  exact zX_reti d_209_25 rt_209

theorem s212 {q : ZQ} {d : Nat} (hL : zLay q) {a0 : Int32} {a1 : Int32} {a2 : Int32} {M : ZI} : zX q d 212 0 [.val (.int a0), .val (.int a1), .val (.int a2)] [] M (f212_both a0 a1 a2) (zEi M) := by
  unfold f212_both
  refine zX_iln0 (p := 1) d_212_0 rfl ?_
  refine zX_ite (fun hs1_0 => ?_) (fun hs1_0 => ?_)
  · refine zX_tsh (p := 52) (n := 23) d_212_1 hs1_0 (by decide) (by decide) (by decide) rfl (by decide) ?_
    refine zX_iln1 (p := 53) d_212_52 rfl (zX_iln2 (p := 54) d_212_53 rfl (zX_add (p := 55) d_212_54 rfl ?_))
    exact zX_reti d_212_55 rt_212
  refine zX_ite (fun hs1_1 => ?_) (fun hs1_1 => ?_)
  · refine zX_tsh (p := 56) (n := 24) d_212_1 hs1_1 (by decide) (by decide) (by decide) rfl (by decide) ?_
    refine zX_iln1 (p := 57) d_212_56 rfl (zX_iln2 (p := 58) d_212_57 rfl (zX_sub (p := 59) d_212_58 rfl ?_))
    exact zX_reti d_212_59 rt_212
  refine zX_ite (fun hs1_2 => ?_) (fun hs1_2 => ?_)
  · refine zX_tsh (p := 60) (n := 25) d_212_1 hs1_2 (by decide) (by decide) (by decide) rfl (by decide) ?_
    refine zX_iln1 (p := 61) d_212_60 rfl (zX_iln2 (p := 62) d_212_61 rfl (zX_mul (p := 63) d_212_62 rfl ?_))
    exact zX_reti d_212_63 rt_212
  refine zX_ite (fun hs1_3 => ?_) (fun hs1_3 => ?_)
  · refine zX_tsh (p := 101) (n := 26) d_212_1 hs1_3 (by decide) (by decide) (by decide) rfl (by decide) ?_
    refine zX_iln1 (p := 102) d_212_101 rfl (zX_iln2 (p := 103) d_212_102 rfl (zX_or (p := 104) d_212_103 rfl ?_))
    exact zX_reti d_212_104 rt_212
  refine zX_ite (fun hs1_4 => ?_) (fun hs1_4 => ?_)
  · refine zX_tsh (p := 64) (n := 27) d_212_1 hs1_4 (by decide) (by decide) (by decide) rfl (by decide) ?_
    refine zX_iln1 (p := 65) d_212_64 rfl (zX_iln2 (p := 66) d_212_65 rfl ?_)
    refine zX_cge (p1 := 73) (p2 := 69) d_212_66 (by decide) rfl ?_ ?_
    · refine zX_ic (p := 74) d_212_73 ci_0 rfl ?_
      exact zX_reti d_212_74 rt_212
    · refine zX_ic (p := 70) d_212_69 ci_1 rfl (zX_goto (p := 74) d_212_70 (by decide) ?_)
      exact zX_reti d_212_74 rt_212
  refine zX_ite (fun hs1_5 => ?_) (fun hs1_5 => ?_)
  · refine zX_tsh (p := 75) (n := 28) d_212_1 hs1_5 (by decide) (by decide) (by decide) rfl (by decide) ?_
    refine zX_iln1 (p := 76) d_212_75 rfl (zX_iln2 (p := 77) d_212_76 rfl ?_)
    refine zX_cne (p1 := 84) (p2 := 80) d_212_77 (by decide) rfl ?_ ?_
    · refine zX_ic (p := 85) d_212_84 ci_0 rfl ?_
      exact zX_reti d_212_85 rt_212
    · refine zX_ic (p := 81) d_212_80 ci_1 rfl (zX_goto (p := 85) d_212_81 (by decide) ?_)
      exact zX_reti d_212_85 rt_212
  refine zX_ite (fun hs1_6 => ?_) (fun hs1_6 => ?_)
  · refine zX_tsh (p := 86) (n := 29) d_212_1 hs1_6 (by decide) (by decide) (by decide) rfl (by decide) ?_
    refine zX_iln1 (p := 87) d_212_86 rfl (zX_iln2 (p := 88) d_212_87 rfl ?_)
    refine zX_cle (p1 := 95) (p2 := 91) d_212_88 (by decide) rfl ?_ ?_
    · refine zX_ic (p := 96) d_212_95 ci_0 rfl ?_
      exact zX_reti d_212_96 rt_212
    · refine zX_ic (p := 92) d_212_91 ci_1 rfl (zX_goto (p := 96) d_212_92 (by decide) ?_)
      exact zX_reti d_212_96 rt_212
  refine zX_ite (fun hs1_7 => ?_) (fun hs1_7 => ?_)
  · refine zX_tsh (p := 101) (n := 30) d_212_1 hs1_7 (by decide) (by decide) (by decide) rfl (by decide) ?_
    refine zX_iln1 (p := 102) d_212_101 rfl (zX_iln2 (p := 103) d_212_102 rfl (zX_or (p := 104) d_212_103 rfl ?_))
    exact zX_reti d_212_104 rt_212
  refine zX_ite (fun hs1_8 => ?_) (fun hs1_8 => ?_)
  · refine zX_tsh (p := 97) (n := 31) d_212_1 hs1_8 (by decide) (by decide) (by decide) rfl (by decide) ?_
    refine zX_iln1 (p := 98) d_212_97 rfl (zX_iln2 (p := 99) d_212_98 rfl (zX_and (p := 100) d_212_99 rfl ?_))
    exact zX_reti d_212_100 rt_212
  have hz1 : (a0 : Int32).toInt < 23 ∨ 31 < (a0 : Int32).toInt := by
    have := zne_i (n := 23) (by decide) hs1_0
    have := zne_i (n := 24) (by decide) hs1_1
    have := zne_i (n := 25) (by decide) hs1_2
    have := zne_i (n := 26) (by decide) hs1_3
    have := zne_i (n := 27) (by decide) hs1_4
    have := zne_i (n := 28) (by decide) hs1_5
    have := zne_i (n := 29) (by decide) hs1_6
    have := zne_i (n := 30) (by decide) hs1_7
    have := zne_i (n := 31) (by decide) hs1_8
    omega
  refine zX_tsd (p := 101) d_212_1 hz1 (by decide) ?_
  refine zX_iln1 (p := 102) d_212_101 rfl (zX_iln2 (p := 103) d_212_102 rfl (zX_or (p := 104) d_212_103 rfl ?_))
  exact zX_reti d_212_104 rt_212

theorem s211_l6 {q : ZQ} {d : Nat} (hL : zLay q) {a1 : Int32} {a2 : Int32} {a3 : Int32} : ∀ (n : Nat) (x1 : Int32) (x2 : Int32) (M5 : ZI) (s3 : Slot) (s4 : Slot), zX q (d + 1) 211 6 [.val (.ref 148), .val (.int a1), .val (.int a2), .val (.int a3), .val (.int x1), .val (.int x2), s3, s4] [] M5 (f211_l6 a1 a3 n x1 x2 M5) (zEj q (d + 1) 211 186 (fun (b : ZI) (s : Slot × Slot × Slot × Slot) => [.val (.ref 148), .val (.int a1), .val (.int a2), .val (.int a3), s.1, s.2.1, s.2.2.1, s.2.2.2]) (fun b => []) (fun b => b)) := by
  intro n
  induction n with
  | zero => intros; exact zX_none
  | succ n ih =>
    intro x1 x2 M5 s3 s4
    rw [f211_l6]
    refine zX_il5 (p := 8) d_211_6 rfl (zX_iln3 (p := 9) d_211_8 rfl ?_)
    refine zX_cge (p1 := 186) (p2 := 12) d_211_9 (by decide) rfl ?_ ?_
    · exact zX_leaf (fun _ _ h => h (.val (.int x1), .val (.int x2), s3, s4))
    · refine zX_aln0 (p := 13) d_211_12 rfl (zX_gr (p := 16) (b := 149) d_211_13 ow_211 gf_10_7 zo_148 (zr_10_0 hL zo_148) rfl (zX_si (p := 19) d_211_16 cs_1244 rfl (zX_si (p := 22) d_211_19 cs_820 rfl (zX_iln1 (p := 23) d_211_22 rfl (zX_mul (p := 24) d_211_23 rfl (zX_add (p := 25) d_211_24 rfl (zX_ic (p := 26) d_211_25 ci_2 rfl ?_)))))))
      refine zX_il5 (p := 28) d_211_26 rfl (zX_mul (p := 29) d_211_28 rfl (zX_add (p := 30) d_211_29 rfl (zX_iag (p := 31) d_211_30 za_149 rfl (zX_js6 (p := 33) d_211_31 rfl (fun x6 => ?_)))))
      refine zX_aln0 (p := 34) d_211_33 rfl (zX_gr (p := 37) (b := 149) d_211_34 ow_211 gf_10_7 zo_148 (zr_10_0 hL zo_148) rfl (zX_si (p := 40) d_211_37 cs_1244 rfl (zX_si (p := 43) d_211_40 cs_820 rfl (zX_iln1 (p := 44) d_211_43 rfl (zX_mul (p := 45) d_211_44 rfl (zX_add (p := 46) d_211_45 rfl (zX_ic (p := 47) d_211_46 ci_2 rfl ?_)))))))
      refine zX_il5 (p := 49) d_211_47 rfl (zX_mul (p := 50) d_211_49 rfl (zX_add (p := 51) d_211_50 rfl (zX_ic (p := 52) d_211_51 ci_1 rfl (zX_add (p := 53) d_211_52 rfl (zX_iag (p := 54) d_211_53 za_149 rfl (zX_js7 (p := 56) d_211_54 rfl (fun x7 => ?_)))))))
      refine zX_il6 (p := 58) d_211_56 rfl (zX_bi (p := 60) d_211_58 cb_23 rfl ?_)
      refine zX_cge (p1 := 93) (p2 := 63) d_211_60 (by decide) rfl ?_ ?_
      · refine zX_il6 (p := 95) d_211_93 rfl (zX_bi (p := 97) d_211_95 cb_26 rfl ?_)
        refine zX_cne (p1 := 117) (p2 := 100) d_211_97 (by decide) rfl ?_ ?_
        · refine zX_il6 (p := 119) d_211_117 rfl (zX_bi (p := 121) d_211_119 cb_30 rfl ?_)
          refine zX_cne (p1 := 147) (p2 := 124) d_211_121 (by decide) rfl ?_ ?_
          · refine zX_ii4 (p := 150) d_211_147 ci_m1 rfl (zX_aln0 (p := 151) d_211_150 rfl (zX_gr (p := 154) (b := 159) d_211_151 ow_211 gf_10_40 zo_148 (zr_10_12 hL zo_148) rfl (zX_il4 (p := 156) d_211_154 rfl (zX_ic (p := 157) d_211_156 ci_1 rfl (zX_sub (p := 158) d_211_157 rfl (zX_il6 (p := 160) d_211_158 rfl (zX_aln0 (p := 161) d_211_160 rfl ?_)))))))
            refine zX_gr (p := 164) (b := 159) d_211_161 ow_211 gf_10_40 zo_148 (zr_10_12 hL zo_148) rfl (zX_il4 (p := 166) d_211_164 rfl (zX_ic (p := 167) d_211_166 ci_1 rfl (zX_sub (p := 168) d_211_167 rfl (zX_iag (p := 169) d_211_168 za_159 rfl (zX_aln0 (p := 170) d_211_169 rfl (zX_gr (p := 173) (b := 159) d_211_170 ow_211 gf_10_40 zo_148 (zr_10_12 hL zo_148) rfl (zX_il4 (p := 175) d_211_173 rfl ?_)))))))
            refine zX_iag (p := 176) d_211_175 za_159 rfl (zX_cS3i (p := 179) d_211_176 ow_211 rs_10_304 kk_212 rfl (s212 hL) rfl rfl rfl rfl (fun v8 => ?_))
            refine zX_itg (p := 180) d_211_179 za_159 rfl (fun M9 => ?_)
            refine zX_ii5 (p := 183) d_211_180 ci_1 rfl (zX_goto (p := 6) d_211_183 (by decide) ?_)
            exact ih (x1 + (-1 : Int32)) (x2 + (1 : Int32)) M9 (.val (.int x6)) (.val (.int x7))
          · refine zX_aln0 (p := 125) d_211_124 rfl (zX_gr (p := 128) (b := 159) d_211_125 ow_211 gf_10_40 zo_148 (zr_10_12 hL zo_148) rfl (zX_il4 (p := 130) d_211_128 rfl (zX_ic (p := 131) d_211_130 ci_1 rfl (zX_sub (p := 132) d_211_131 rfl (zX_ic (p := 133) d_211_132 ci_1 rfl (zX_aln0 (p := 134) d_211_133 rfl (zX_gr (p := 137) (b := 159) d_211_134 ow_211 gf_10_40 zo_148 (zr_10_12 hL zo_148) rfl ?_)))))))
            refine zX_il4 (p := 139) d_211_137 rfl (zX_ic (p := 140) d_211_139 ci_1 rfl (zX_sub (p := 141) d_211_140 rfl (zX_iag (p := 142) d_211_141 za_159 rfl (zX_sub (p := 143) d_211_142 rfl (zX_itg (p := 144) d_211_143 za_159 rfl (fun M10 => ?_))))))
            refine zX_goto (p := 180) d_211_144 (by decide) (zX_ii5 (p := 183) d_211_180 ci_1 rfl (zX_goto (p := 6) d_211_183 (by decide) ?_))
            exact ih x1 (x2 + (1 : Int32)) M10 (.val (.int x6)) (.val (.int x7))
        · refine zX_aln0 (p := 101) d_211_100 rfl (zX_gr (p := 104) (b := 159) d_211_101 ow_211 gf_10_40 zo_148 (zr_10_12 hL zo_148) rfl (zX_il4 (p := 106) d_211_104 rfl (zX_ic (p := 107) d_211_106 ci_1 rfl (zX_sub (p := 108) d_211_107 rfl (zX_dup2 (p := 109) d_211_108 rfl rfl rfl (zX_iag (p := 110) d_211_109 za_159 rfl (zX_il7 (p := 112) d_211_110 rfl ?_)))))))
          refine zX_divg (p := 113) d_211_112 rfl (zX_itg (p := 114) d_211_113 za_159 rfl (fun M11 => ?_))
          refine zX_goto (p := 180) d_211_114 (by decide) (zX_ii5 (p := 183) d_211_180 ci_1 rfl (zX_goto (p := 6) d_211_183 (by decide) ?_))
          exact ih x1 (x2 + (1 : Int32)) M11 (.val (.int x6)) (.val (.int x7))
      · refine zX_aln0 (p := 64) d_211_63 rfl (zX_gr (p := 67) (b := 159) d_211_64 ow_211 gf_10_40 zo_148 (zr_10_12 hL zo_148) rfl (zX_il4 (p := 69) d_211_67 rfl (zX_il6 (p := 71) d_211_69 rfl ?_)))
        refine zX_zne (p1 := 79) (p2 := 74) d_211_71 (by decide) rfl ?_ ?_
        · refine zX_aln0 (p := 80) d_211_79 rfl (zX_gr (p := 83) (b := 160) d_211_80 ow_211 gf_10_43 zo_148 (zr_10_13 hL zo_148) rfl (zX_il6 (p := 85) d_211_83 rfl (zX_iag (p := 86) d_211_85 za_160 rfl (zX_itg (p := 87) d_211_86 za_159 rfl (fun M12 => ?_)))))
          refine zX_ii4 (p := 90) d_211_87 ci_1 rfl (zX_goto (p := 180) d_211_90 (by decide) (zX_ii5 (p := 183) d_211_180 ci_1 rfl (zX_goto (p := 6) d_211_183 (by decide) ?_)))
          exact ih (x1 + (1 : Int32)) (x2 + (1 : Int32)) M12 (.val (.int x6)) (.val (.int x7))
        · refine zX_il7 (p := 76) d_211_74 rfl (zX_goto (p := 86) d_211_76 (by decide) (zX_itg (p := 87) d_211_86 za_159 rfl (fun M13 => ?_)))
          refine zX_ii4 (p := 90) d_211_87 ci_1 rfl (zX_goto (p := 180) d_211_90 (by decide) (zX_ii5 (p := 183) d_211_180 ci_1 rfl (zX_goto (p := 6) d_211_183 (by decide) ?_)))
          exact ih (x1 + (1 : Int32)) (x2 + (1 : Int32)) M13 (.val (.int x6)) (.val (.int x7))

theorem s211 {q : ZQ} {d : Nat} (hL : zLay q) {a1 : Int32} {a2 : Int32} {a3 : Int32} {M : ZI} : zX q (d + 1) 211 0 [.val (.ref 148), .val (.int a1), .val (.int a2), .val (.int a3), .unset, .unset, .unset, .unset] [] M (f211_comesTo a1 a2 a3 M) zEm := by
  unfold f211_comesTo
  refine zX_ic (p := 1) d_211_0 ci_0 rfl (zX_is4 (p := 3) d_211_1 rfl (zX_iln2 (p := 4) d_211_3 rfl (zX_is5 (p := 6) d_211_4 rfl ?_)))
  refine zX_bind (s211_l6 hL zfu (0 : Int32) a2 M (.unset) (.unset)) ?_
  rintro M14 ⟨s15, s16, s17, s18⟩
  try dsimp only
  refine zX_aln0 (p := 187) d_211_186 rfl (zX_gr (p := 190) (b := 159) d_211_187 ow_211 gf_10_40 zo_148 (zr_10_12 hL zo_148) rfl (zX_ic (p := 191) d_211_190 ci_0 rfl (zX_iac (p := 192) d_211_191 za_159 rfl zin_0_420 zi_0 ?_)))
  exact zX_retm d_211_192 rt_211

theorem s210 {q : ZQ} {d : Nat} (hL : zLay q) {a1 : Int32} {M : ZI} : zX q (d + 2) 210 0 [.val (.ref 148), .val (.int a1)] [] M (f210_isSo a1 M) zEm := by
  unfold f210_isSo
  refine zX_aln0 (p := 1) d_210_0 rfl (zX_gr (p := 4) (b := 149) d_210_1 ow_210 gf_10_7 zo_148 (zr_10_0 hL zo_148) rfl (zX_si (p := 7) d_210_4 cs_1210 rfl (zX_iln1 (p := 8) d_210_7 rfl (zX_add (p := 9) d_210_8 rfl (zX_iag (p := 10) d_210_9 za_149 rfl (zX_aln0 (p := 11) d_210_10 rfl (zX_gr (p := 14) (b := 149) d_210_11 ow_210 gf_10_7 zo_148 (zr_10_0 hL zo_148) rfl ?_)))))))
  refine zX_si (p := 17) d_210_14 cs_1194 rfl (zX_iln1 (p := 18) d_210_17 rfl (zX_add (p := 19) d_210_18 rfl (zX_iag (p := 20) d_210_19 za_149 rfl ?_)))
  refine zX_ceq (p1 := 52) (p2 := 23) d_210_20 (by decide) rfl ?_ ?_
  · refine zX_ic (p := 53) d_210_52 ci_1 rfl (zX_goto (p := 57) d_210_53 (by decide) ?_)
    exact zX_retmb d_210_57 rt_210 (Or.inr rfl)
  · refine zX_aln0 (p := 24) d_210_23 rfl (zX_ic (p := 25) d_210_24 ci_0 rfl (zX_aln0 (p := 26) d_210_25 rfl (zX_gr (p := 29) (b := 149) d_210_26 ow_210 gf_10_7 zo_148 (zr_10_0 hL zo_148) rfl (zX_si (p := 32) d_210_29 cs_1194 rfl (zX_iln1 (p := 33) d_210_32 rfl (zX_add (p := 34) d_210_33 rfl (zX_iag (p := 35) d_210_34 za_149 rfl ?_)))))))
    refine zX_aln0 (p := 36) d_210_35 rfl (zX_gr (p := 39) (b := 149) d_210_36 ow_210 gf_10_7 zo_148 (zr_10_0 hL zo_148) rfl (zX_si (p := 42) d_210_39 cs_1210 rfl (zX_iln1 (p := 43) d_210_42 rfl (zX_add (p := 44) d_210_43 rfl (zX_iag (p := 45) d_210_44 za_149 rfl (zX_cV3m (p := 48) ⟨ow_211, by decide⟩ zo_148 d_210_45 ow_210 rs_10_308 kk_211 rfl (s211 hL) rfl rfl rfl rfl (fun v1 M2 => ?_)))))))
    try dsimp only
    refine zX_ic (p := 49) d_210_48 ci_1 rfl ?_
    refine zX_cne (p1 := 56) (p2 := 52) d_210_49 (by decide) rfl ?_ ?_
    · refine zX_ic (p := 57) d_210_56 ci_0 rfl ?_
      exact zX_retmb d_210_57 rt_210 (Or.inl rfl)
    · refine zX_ic (p := 53) d_210_52 ci_1 rfl (zX_goto (p := 57) d_210_53 (by decide) ?_)
      exact zX_retmb d_210_57 rt_210 (Or.inr rfl)

theorem s213 {q : ZQ} {d : Nat} (hL : zLay q) {a0 : Int32} {a1 : Int32} {M : ZI} : zX q d 213 0 [.val (.int a0), .val (.int a1)] [] M (f213_greater a0 a1) (zEi M) := by
  unfold f213_greater
  refine zX_iln0 (p := 1) d_213_0 rfl (zX_iln1 (p := 2) d_213_1 rfl ?_)
  refine zX_cle (p1 := 9) (p2 := 5) d_213_2 (by decide) rfl ?_ ?_
  · refine zX_iln1 (p := 10) d_213_9 rfl ?_
    exact zX_reti d_213_10 rt_213
  · refine zX_iln0 (p := 6) d_213_5 rfl (zX_goto (p := 10) d_213_6 (by decide) ?_)
    exact zX_reti d_213_10 rt_213

theorem s208_l123 {q : ZQ} {d : Nat} (hL : zLay q) {a1 : Int32} {a2 : Int32} {a3 : Int32} {a4 : Int32} {a5 : Int32} : ∀ (n : Nat) (x11 : Int32) (M12 : ZI), zX q (d + 3) 208 123 [.val (.ref 148), .val (.int a1), .val (.int a2), .val (.int a3), .val (.int a4), .val (.int a5), .val (.int x11)] [] M12 (f208_l123 a1 a4 a5 n x11 M12) zEm := by
  intro n
  induction n with
  | zero => intros; exact zX_none
  | succ n ih =>
    intro x11 M12
    rw [f208_l123]
    refine zX_il6 (p := 125) d_208_123 rfl (zX_aln0 (p := 126) d_208_125 rfl (zX_gr (p := 129) (b := 149) d_208_126 ow_208 gf_10_7 zo_148 (zr_10_0 hL zo_148) rfl (zX_bi (p := 131) d_208_129 cb_58 rfl (zX_iac (p := 132) d_208_131 za_149 rfl zin_58_2064 zi_58 ?_))))
    refine zX_cge (p1 := 202) (p2 := 135) d_208_132 (by decide) rfl ?_ ?_
    · refine zX_il4 (p := 204) d_208_202 rfl ?_
      exact zX_retm d_208_204 rt_208
    · refine zX_aln0 (p := 136) d_208_135 rfl (zX_gr (p := 139) (b := 149) d_208_136 ow_208 gf_10_7 zo_148 (zr_10_0 hL zo_148) rfl (zX_si (p := 142) d_208_139 cs_1226 rfl (zX_il6 (p := 144) d_208_142 rfl (zX_add (p := 145) d_208_144 rfl (zX_iag (p := 146) d_208_145 za_149 rfl (zX_iln1 (p := 147) d_208_146 rfl ?_))))))
      refine zX_cne (p1 := 196) (p2 := 150) d_208_147 (by decide) rfl ?_ ?_
      · refine zX_ii6 (p := 199) d_208_196 ci_1 rfl (zX_goto (p := 123) d_208_199 (by decide) ?_)
        exact ih (x11 + (1 : Int32)) M12
      · refine zX_aln0 (p := 151) d_208_150 rfl (zX_il6 (p := 153) d_208_151 rfl (zX_cV1m (p := 156) ⟨ow_210, by decide⟩ zo_148 d_208_153 ow_208 rs_10_314 kk_210 rfl (s210 hL) rfl rfl rfl rfl (fun v13 M14 => ?_)))
        try dsimp only
        refine zX_zeq (p1 := 196) (p2 := 159) d_208_156 (by decide) rfl ?_ ?_
        · refine zX_ii6 (p := 199) d_208_196 ci_1 rfl (zX_goto (p := 123) d_208_199 (by decide) ?_)
          exact ih (x11 + (1 : Int32)) M14
        · refine zX_ic (p := 160) d_208_159 ci_0 rfl (zX_il5 (p := 162) d_208_160 rfl (zX_aln0 (p := 163) d_208_162 rfl (zX_ic (p := 164) d_208_163 ci_0 rfl (zX_aln0 (p := 165) d_208_164 rfl (zX_gr (p := 168) (b := 149) d_208_165 ow_208 gf_10_7 zo_148 (zr_10_0 hL zo_148) rfl (zX_si (p := 171) d_208_168 cs_1178 rfl (zX_il6 (p := 173) d_208_171 rfl ?_)))))))
          refine zX_add (p := 174) d_208_173 rfl (zX_iag (p := 175) d_208_174 za_149 rfl (zX_aln0 (p := 176) d_208_175 rfl (zX_gr (p := 179) (b := 149) d_208_176 ow_208 gf_10_7 zo_148 (zr_10_0 hL zo_148) rfl (zX_si (p := 182) d_208_179 cs_1194 rfl (zX_il6 (p := 184) d_208_182 rfl (zX_add (p := 185) d_208_184 rfl (zX_iag (p := 186) d_208_185 za_149 rfl ?_)))))))
          refine zX_cV3m (p := 189) ⟨ow_211, by decide⟩ zo_148 d_208_186 ow_208 rs_10_308 kk_211 rfl (s211 hL) rfl rfl rfl rfl (fun v15 M16 => ?_)
          try dsimp only
          refine zX_cS2i (p := 192) d_208_189 ow_208 rs_10_317 kk_202 rfl (s202 hL) rfl rfl rfl rfl (fun v17 => ?_)
          refine zX_cS2i (p := 195) d_208_192 ow_208 rs_10_320 kk_213 rfl (s213 hL) rfl rfl rfl rfl (fun v18 => ?_)
          exact zX_retm d_208_195 rt_208

theorem s208 {q : ZQ} {d : Nat} (hL : zLay q) {a1 : Int32} {a2 : Int32} {a3 : Int32} {a4 : Int32} {a5 : Int32} {M : ZI} : zX q (d + 3) 208 0 [.val (.ref 148), .val (.int a1), .val (.int a2), .val (.int a3), .val (.int a4), .val (.int a5), .unset] [] M (f208_says a1 a2 a3 a4 a5 M) zEm := by
  unfold f208_says
  refine zX_aln0 (p := 1) d_208_0 rfl (zX_gr (p := 4) (b := 160) d_208_1 ow_208 gf_10_43 zo_148 (zr_10_13 hL zo_148) rfl (zX_ic (p := 5) d_208_4 ci_1 rfl (zX_iln2 (p := 6) d_208_5 rfl (zX_itc (p := 7) d_208_6 za_160 rfl zin_1_10 zi_1 (fun M1 => ?_)))))
  refine zX_aln0 (p := 8) d_208_7 rfl (zX_gr (p := 11) (b := 160) d_208_8 ow_208 gf_10_43 zo_148 (zr_10_13 hL zo_148) rfl (zX_ic (p := 12) d_208_11 ci_2 rfl (zX_aln0 (p := 13) d_208_12 rfl (zX_gr (p := 16) (b := 149) d_208_13 ow_208 gf_10_7 zo_148 (zr_10_0 hL zo_148) rfl (zX_bi (p := 18) d_208_16 cb_17 rfl (zX_iln2 (p := 19) d_208_18 rfl (zX_add (p := 20) d_208_19 rfl ?_)))))))
  refine zX_iag (p := 21) d_208_20 za_149 rfl (zX_itc (p := 22) d_208_21 za_160 rfl zin_2_10 zi_2 (fun M2 => ?_))
  refine zX_aln0 (p := 23) d_208_22 rfl (zX_gr (p := 26) (b := 160) d_208_23 ow_208 gf_10_43 zo_148 (zr_10_13 hL zo_148) rfl (zX_ic (p := 27) d_208_26 ci_3 rfl (zX_aln0 (p := 28) d_208_27 rfl (zX_gr (p := 31) (b := 149) d_208_28 ow_208 gf_10_7 zo_148 (zr_10_0 hL zo_148) rfl (zX_bi (p := 33) d_208_31 cb_60 rfl (zX_iln2 (p := 34) d_208_33 rfl (zX_add (p := 35) d_208_34 rfl ?_)))))))
  refine zX_iag (p := 36) d_208_35 za_149 rfl (zX_itc (p := 37) d_208_36 za_160 rfl zin_3_10 zi_3 (fun M3 => ?_))
  refine zX_aln0 (p := 38) d_208_37 rfl (zX_gr (p := 41) (b := 160) d_208_38 ow_208 gf_10_43 zo_148 (zr_10_13 hL zo_148) rfl (zX_ic (p := 42) d_208_41 ci_4 rfl (zX_aln0 (p := 43) d_208_42 rfl (zX_gr (p := 46) (b := 149) d_208_43 ow_208 gf_10_7 zo_148 (zr_10_0 hL zo_148) rfl (zX_bi (p := 48) d_208_46 cb_27 rfl (zX_iln2 (p := 49) d_208_48 rfl (zX_add (p := 50) d_208_49 rfl ?_)))))))
  refine zX_iag (p := 51) d_208_50 za_149 rfl (zX_itc (p := 52) d_208_51 za_160 rfl zin_4_10 zi_4 (fun M4 => ?_))
  refine zX_aln0 (p := 53) d_208_52 rfl (zX_gr (p := 56) (b := 160) d_208_53 ow_208 gf_10_43 zo_148 (zr_10_13 hL zo_148) rfl (zX_ic (p := 57) d_208_56 ci_5 rfl (zX_aln0 (p := 58) d_208_57 rfl (zX_gr (p := 61) (b := 149) d_208_58 ow_208 gf_10_7 zo_148 (zr_10_0 hL zo_148) rfl (zX_bi (p := 63) d_208_61 cb_37 rfl (zX_iln2 (p := 64) d_208_63 rfl (zX_add (p := 65) d_208_64 rfl ?_)))))))
  refine zX_iag (p := 66) d_208_65 za_149 rfl (zX_itc (p := 67) d_208_66 za_160 rfl zin_5_10 zi_5 (fun M5 => ?_))
  refine zX_aln0 (p := 68) d_208_67 rfl (zX_gr (p := 71) (b := 160) d_208_68 ow_208 gf_10_43 zo_148 (zr_10_13 hL zo_148) rfl (zX_bi (p := 73) d_208_71 cb_6 rfl (zX_aln0 (p := 74) d_208_73 rfl (zX_gr (p := 77) (b := 149) d_208_74 ow_208 gf_10_7 zo_148 (zr_10_0 hL zo_148) rfl (zX_ic (p := 78) d_208_77 ci_1 rfl (zX_iac (p := 79) d_208_78 za_149 rfl zin_1_2064 zi_1 (zX_itc (p := 80) d_208_79 za_160 rfl zin_6_10 zi_6 (fun M6 => ?_))))))))
  refine zX_aln0 (p := 81) d_208_80 rfl (zX_gr (p := 84) (b := 160) d_208_81 ow_208 gf_10_43 zo_148 (zr_10_13 hL zo_148) rfl (zX_bi (p := 86) d_208_84 cb_7 rfl (zX_aln0 (p := 87) d_208_86 rfl (zX_gr (p := 90) (b := 149) d_208_87 ow_208 gf_10_7 zo_148 (zr_10_0 hL zo_148) rfl (zX_ic (p := 91) d_208_90 ci_0 rfl (zX_iac (p := 92) d_208_91 za_149 rfl zin_0_2064 zi_0 (zX_itc (p := 93) d_208_92 za_160 rfl zin_7_10 zi_7 (fun M7 => ?_))))))))
  refine zX_aln0 (p := 94) d_208_93 rfl (zX_gr (p := 97) (b := 160) d_208_94 ow_208 gf_10_43 zo_148 (zr_10_13 hL zo_148) rfl (zX_bi (p := 99) d_208_97 cb_8 rfl (zX_aln0 (p := 100) d_208_99 rfl (zX_gr (p := 103) (b := 149) d_208_100 ow_208 gf_10_7 zo_148 (zr_10_0 hL zo_148) rfl (zX_bi (p := 105) d_208_103 cb_7 rfl (zX_iln2 (p := 106) d_208_105 rfl (zX_add (p := 107) d_208_106 rfl ?_)))))))
  refine zX_iag (p := 108) d_208_107 za_149 rfl (zX_cS1i (p := 111) d_208_108 ow_208 rs_10_311 kk_209 rfl (s209 hL) rfl rfl rfl rfl (fun v8 => ?_))
  refine zX_itc (p := 112) d_208_111 za_160 rfl zin_8_10 zi_8 (fun M9 => ?_)
  refine zX_aln0 (p := 113) d_208_112 rfl (zX_gr (p := 116) (b := 160) d_208_113 ow_208 gf_10_43 zo_148 (zr_10_13 hL zo_148) rfl (zX_bi (p := 118) d_208_116 cb_9 rfl (zX_iln3 (p := 119) d_208_118 rfl (zX_itc (p := 120) d_208_119 za_160 rfl zin_9_10 zi_9 (fun M10 => ?_)))))
  refine zX_ic (p := 121) d_208_120 ci_0 rfl (zX_is6 (p := 123) d_208_121 rfl ?_)
  exact s208_l123 hL zfu (0 : Int32) M10

theorem s207 {q : ZQ} {d : Nat} (hL : zLay q) {a1 : Int32} {M : ZI} : zX q (d + 4) 207 0 [.val (.ref 148), .val (.int a1)] [] M (f207_weightOf a1 M) zEm := by
  unfold f207_weightOf
  refine zX_aln0 (p := 1) d_207_0 rfl (zX_bi (p := 3) d_207_1 cb_20 rfl (zX_iln1 (p := 4) d_207_3 rfl (zX_ic (p := 5) d_207_4 ci_0 rfl (zX_ic (p := 6) d_207_5 ci_1 rfl (zX_bi (p := 8) d_207_6 cb_24 rfl (zX_cV5m (p := 11) ⟨ow_208, by decide⟩ zo_148 d_207_8 ow_207 rs_10_323 kk_208 rfl (s208 hL) rfl rfl rfl rfl (fun v1 M2 => ?_)))))))
  try dsimp only
  exact zX_retm d_207_11 rt_207

theorem s206_l4 {q : ZQ} {d : Nat} (hL : zLay q) {a1 : Int32} : ∀ (n : Nat) (x1 : Int32) (x2 : Int32) (M3 : ZI), zX q (d + 5) 206 4 [.val (.ref 148), .val (.int a1), .val (.int x1), .val (.int x2)] [] M3 (f206_l4 a1 n x1 x2 M3) (zEj q (d + 5) 206 46 (fun (b : Int32 × ZI) (s : Slot) => [.val (.ref 148), .val (.int a1), .val (.int b.1), s]) (fun b => []) (fun b => b.2)) := by
  intro n
  induction n with
  | zero => intros; exact zX_none
  | succ n ih =>
    intro x1 x2 M3
    rw [f206_l4]
    refine zX_iln3 (p := 5) d_206_4 rfl (zX_aln0 (p := 6) d_206_5 rfl (zX_gr (p := 9) (b := 149) d_206_6 ow_206 gf_10_7 zo_148 (zr_10_0 hL zo_148) rfl (zX_bi (p := 11) d_206_9 cb_48 rfl (zX_iac (p := 12) d_206_11 za_149 rfl zin_48_2064 zi_48 ?_))))
    refine zX_cge (p1 := 46) (p2 := 15) d_206_12 (by decide) rfl ?_ ?_
    · exact zX_leaf (fun _ _ h => h (.val (.int x2)))
    · refine zX_iln2 (p := 16) d_206_15 rfl (zX_aln0 (p := 17) d_206_16 rfl (zX_gr (p := 20) (b := 149) d_206_17 ow_206 gf_10_7 zo_148 (zr_10_0 hL zo_148) rfl (zX_bi (p := 22) d_206_20 cb_80 rfl (zX_iln3 (p := 23) d_206_22 rfl (zX_add (p := 24) d_206_23 rfl (zX_iag (p := 25) d_206_24 za_149 rfl (zX_iln1 (p := 26) d_206_25 rfl ?_)))))))
      refine zX_cne (p1 := 37) (p2 := 29) d_206_26 (by decide) rfl ?_ ?_
      · refine zX_ic (p := 38) d_206_37 ci_0 rfl (zX_add (p := 39) d_206_38 rfl (zX_jsn2 (p := 40) d_206_39 rfl (fun x4 => ?_)))
        refine zX_ii3 (p := 43) d_206_40 ci_1 rfl (zX_goto (p := 4) d_206_43 (by decide) ?_)
        exact ih x4 (x2 + (1 : Int32)) M3
      · refine zX_aln0 (p := 30) d_206_29 rfl (zX_iln3 (p := 31) d_206_30 rfl (zX_cV1m (p := 34) ⟨ow_207, by decide⟩ zo_148 d_206_31 ow_206 rs_10_327 kk_207 rfl (s207 hL) rfl rfl rfl rfl (fun v5 M6 => ?_)))
        try dsimp only
        refine zX_goto (p := 38) d_206_34 (by decide) (zX_add (p := 39) d_206_38 rfl (zX_jsn2 (p := 40) d_206_39 rfl (fun x7 => ?_)))
        refine zX_ii3 (p := 43) d_206_40 ci_1 rfl (zX_goto (p := 4) d_206_43 (by decide) ?_)
        exact ih x7 (x2 + (1 : Int32)) M6

theorem s206 {q : ZQ} {d : Nat} (hL : zLay q) {a1 : Int32} {M : ZI} : zX q (d + 5) 206 0 [.val (.ref 148), .val (.int a1), .unset, .unset] [] M (f206_sumFor a1 M) zEm := by
  unfold f206_sumFor
  refine zX_ic (p := 1) d_206_0 ci_0 rfl (zX_isn2 (p := 2) d_206_1 rfl (zX_ic (p := 3) d_206_2 ci_0 rfl (zX_isn3 (p := 4) d_206_3 rfl ?_)))
  refine zX_bind (s206_l4 hL zfu (0 : Int32) (0 : Int32) M) ?_
  rintro ⟨x8, M9⟩ s10
  try dsimp only
  refine zX_iln2 (p := 47) d_206_46 rfl ?_
  exact zX_retm d_206_47 rt_206

theorem s214_l4 {q : ZQ} {d : Nat} (hL : zLay q) {a1 : Int32} {M : ZI} : ∀ (n : Nat) (x1 : Int32) (x2 : Int32), zX q d 214 4 [.val (.ref 148), .val (.int a1), .val (.int x1), .val (.int x2)] [] M (f214_l4 a1 M n x1 x2) (zEj q d 214 44 (fun (b : Int32) (s : Slot) => [.val (.ref 148), .val (.int a1), .val (.int b), s]) (fun b => []) (fun b => M)) := by
  intro n
  induction n with
  | zero => intros; exact zX_none
  | succ n ih =>
    intro x1 x2
    rw [f214_l4]
    refine zX_iln3 (p := 5) d_214_4 rfl (zX_aln0 (p := 6) d_214_5 rfl (zX_gr (p := 9) (b := 149) d_214_6 ow_214 gf_10_7 zo_148 (zr_10_0 hL zo_148) rfl (zX_bi (p := 11) d_214_9 cb_48 rfl (zX_iac (p := 12) d_214_11 za_149 rfl zin_48_2064 zi_48 ?_))))
    refine zX_cge (p1 := 44) (p2 := 15) d_214_12 (by decide) rfl ?_ ?_
    · exact zX_leaf (fun _ _ h => h (.val (.int x2)))
    · refine zX_iln2 (p := 16) d_214_15 rfl (zX_aln0 (p := 17) d_214_16 rfl (zX_gr (p := 20) (b := 149) d_214_17 ow_214 gf_10_7 zo_148 (zr_10_0 hL zo_148) rfl (zX_bi (p := 22) d_214_20 cb_80 rfl (zX_iln3 (p := 23) d_214_22 rfl (zX_add (p := 24) d_214_23 rfl (zX_iag (p := 25) d_214_24 za_149 rfl (zX_iln1 (p := 26) d_214_25 rfl ?_)))))))
      refine zX_cne (p1 := 35) (p2 := 29) d_214_26 (by decide) rfl ?_ ?_
      · refine zX_ic (p := 36) d_214_35 ci_0 rfl (zX_or (p := 37) d_214_36 rfl (zX_jsn2 (p := 38) d_214_37 rfl (fun x3 => ?_)))
        refine zX_ii3 (p := 41) d_214_38 ci_1 rfl (zX_goto (p := 4) d_214_41 (by decide) ?_)
        exact ih x3 (x2 + (1 : Int32))
      · refine zX_ic (p := 30) d_214_29 ci_1 rfl (zX_iln3 (p := 31) d_214_30 rfl (zX_shl (p := 32) d_214_31 rfl (zX_goto (p := 36) d_214_32 (by decide) (zX_or (p := 37) d_214_36 rfl (zX_jsn2 (p := 38) d_214_37 rfl (fun x4 => ?_))))))
        refine zX_ii3 (p := 41) d_214_38 ci_1 rfl (zX_goto (p := 4) d_214_41 (by decide) ?_)
        exact ih x4 (x2 + (1 : Int32))

theorem s214 {q : ZQ} {d : Nat} (hL : zLay q) {a1 : Int32} {M : ZI} : zX q d 214 0 [.val (.ref 148), .val (.int a1), .unset, .unset] [] M (f214_voicesFor a1 M) (zEi M) := by
  unfold f214_voicesFor
  refine zX_ic (p := 1) d_214_0 ci_0 rfl (zX_isn2 (p := 2) d_214_1 rfl (zX_ic (p := 3) d_214_2 ci_0 rfl (zX_isn3 (p := 4) d_214_3 rfl ?_)))
  refine zX_bind (s214_l4 hL zfu (0 : Int32) (0 : Int32)) ?_
  rintro x5 s6
  try dsimp only
  refine zX_iln2 (p := 45) d_214_44 rfl ?_
  exact zX_reti d_214_45 rt_214

theorem s215_l4 {q : ZQ} {d : Nat} (hL : zLay q) {a1 : Int32} : ∀ (n : Nat) (x1 : Int32) (x2 : Int32) (M4 : ZI) (s3 : Slot), zX q (d + 1) 215 4 [.val (.ref 148), .val (.int a1), .val (.int x1), .val (.int x2), s3] [] M4 (f215_l4 a1 n x1 x2 M4) (zEj q (d + 1) 215 136 (fun (b : Int32 × ZI) (s : Slot × Slot) => [.val (.ref 148), .val (.int a1), .val (.int b.1), s.1, s.2]) (fun b => []) (fun b => b.2)) := by
  intro n
  induction n with
  | zero => intros; exact zX_none
  | succ n ih =>
    intro x1 x2 M4 s3
    rw [f215_l4]
    refine zX_iln3 (p := 5) d_215_4 rfl (zX_aln0 (p := 6) d_215_5 rfl (zX_gr (p := 9) (b := 149) d_215_6 ow_215 gf_10_7 zo_148 (zr_10_0 hL zo_148) rfl (zX_bi (p := 11) d_215_9 cb_54 rfl (zX_iac (p := 12) d_215_11 za_149 rfl zin_54_2064 zi_54 ?_))))
    refine zX_cge (p1 := 136) (p2 := 15) d_215_12 (by decide) rfl ?_ ?_
    · exact zX_leaf (fun _ _ h => h (.val (.int x2), s3))
    · refine zX_aln0 (p := 16) d_215_15 rfl (zX_gr (p := 19) (b := 149) d_215_16 ow_215 gf_10_7 zo_148 (zr_10_0 hL zo_148) rfl (zX_si (p := 22) d_215_19 cs_162 rfl (zX_iln3 (p := 23) d_215_22 rfl (zX_add (p := 24) d_215_23 rfl (zX_iag (p := 25) d_215_24 za_149 rfl (zX_js4 (p := 27) d_215_25 rfl (fun x5 => ?_)))))))
      refine zX_il4 (p := 29) d_215_27 rfl (zX_bi (p := 31) d_215_29 cb_40 rfl ?_)
      refine zX_cge (p1 := 79) (p2 := 34) d_215_31 (by decide) rfl ?_ ?_
      · refine zX_ii2 (p := 82) d_215_79 ci_m1 rfl (zX_aln0 (p := 83) d_215_82 rfl (zX_gr (p := 86) (b := 159) d_215_83 ow_215 gf_10_40 zo_148 (zr_10_12 hL zo_148) rfl (zX_iln2 (p := 87) d_215_86 rfl (zX_ic (p := 88) d_215_87 ci_1 rfl (zX_sub (p := 89) d_215_88 rfl (zX_il4 (p := 91) d_215_89 rfl (zX_bi (p := 93) d_215_91 cb_40 rfl ?_)))))))
        refine zX_cne (p1 := 114) (p2 := 96) d_215_93 (by decide) rfl ?_ ?_
        · refine zX_aln0 (p := 115) d_215_114 rfl (zX_gr (p := 118) (b := 159) d_215_115 ow_215 gf_10_40 zo_148 (zr_10_12 hL zo_148) rfl (zX_iln2 (p := 119) d_215_118 rfl (zX_ic (p := 120) d_215_119 ci_1 rfl (zX_sub (p := 121) d_215_120 rfl (zX_iag (p := 122) d_215_121 za_159 rfl (zX_aln0 (p := 123) d_215_122 rfl (zX_gr (p := 126) (b := 159) d_215_123 ow_215 gf_10_40 zo_148 (zr_10_12 hL zo_148) rfl ?_)))))))
          refine zX_iln2 (p := 127) d_215_126 rfl (zX_iag (p := 128) d_215_127 za_159 rfl (zX_or (p := 129) d_215_128 rfl (zX_itg (p := 130) d_215_129 za_159 rfl (fun M6 => ?_))))
          refine zX_ii3 (p := 133) d_215_130 ci_1 rfl (zX_goto (p := 4) d_215_133 (by decide) ?_)
          exact ih (x1 + (-1 : Int32)) (x2 + (1 : Int32)) M6 (.val (.int x5))
        · refine zX_aln0 (p := 97) d_215_96 rfl (zX_gr (p := 100) (b := 159) d_215_97 ow_215 gf_10_40 zo_148 (zr_10_12 hL zo_148) rfl (zX_iln2 (p := 101) d_215_100 rfl (zX_ic (p := 102) d_215_101 ci_1 rfl (zX_sub (p := 103) d_215_102 rfl (zX_iag (p := 104) d_215_103 za_159 rfl (zX_aln0 (p := 105) d_215_104 rfl (zX_gr (p := 108) (b := 159) d_215_105 ow_215 gf_10_40 zo_148 (zr_10_12 hL zo_148) rfl ?_)))))))
          refine zX_iln2 (p := 109) d_215_108 rfl (zX_iag (p := 110) d_215_109 za_159 rfl (zX_and (p := 111) d_215_110 rfl (zX_goto (p := 129) d_215_111 (by decide) (zX_itg (p := 130) d_215_129 za_159 rfl (fun M7 => ?_)))))
          refine zX_ii3 (p := 133) d_215_130 ci_1 rfl (zX_goto (p := 4) d_215_133 (by decide) ?_)
          exact ih (x1 + (-1 : Int32)) (x2 + (1 : Int32)) M7 (.val (.int x5))
      · refine zX_aln0 (p := 35) d_215_34 rfl (zX_gr (p := 38) (b := 159) d_215_35 ow_215 gf_10_40 zo_148 (zr_10_12 hL zo_148) rfl (zX_iln2 (p := 39) d_215_38 rfl (zX_il4 (p := 41) d_215_39 rfl (zX_bi (p := 43) d_215_41 cb_20 rfl ?_))))
        refine zX_cge (p1 := 55) (p2 := 46) d_215_43 (by decide) rfl ?_ ?_
        · refine zX_iln1 (p := 56) d_215_55 rfl (zX_cS1i (p := 59) d_215_56 ow_215 rs_10_311 kk_209 rfl (s209 hL) rfl rfl rfl rfl (fun v8 => ?_))
          refine zX_il4 (p := 61) d_215_59 rfl (zX_bi (p := 63) d_215_61 cb_20 rfl (zX_sub (p := 64) d_215_63 rfl ?_))
          refine zX_clt (p1 := 71) (p2 := 67) d_215_64 (by decide) rfl ?_ ?_
          · refine zX_ic (p := 72) d_215_71 ci_0 rfl (zX_itg (p := 73) d_215_72 za_159 rfl (fun M9 => ?_))
            refine zX_ii2 (p := 76) d_215_73 ci_1 rfl (zX_goto (p := 130) d_215_76 (by decide) (zX_ii3 (p := 133) d_215_130 ci_1 rfl (zX_goto (p := 4) d_215_133 (by decide) ?_)))
            exact ih (x1 + (1 : Int32)) (x2 + (1 : Int32)) M9 (.val (.int x5))
          · refine zX_ic (p := 68) d_215_67 ci_1 rfl (zX_goto (p := 72) d_215_68 (by decide) (zX_itg (p := 73) d_215_72 za_159 rfl (fun M10 => ?_)))
            refine zX_ii2 (p := 76) d_215_73 ci_1 rfl (zX_goto (p := 130) d_215_76 (by decide) (zX_ii3 (p := 133) d_215_130 ci_1 rfl (zX_goto (p := 4) d_215_133 (by decide) ?_)))
            exact ih (x1 + (1 : Int32)) (x2 + (1 : Int32)) M10 (.val (.int x5))
        · refine zX_iln1 (p := 47) d_215_46 rfl (zX_il4 (p := 49) d_215_47 rfl (zX_shr (p := 50) d_215_49 rfl (zX_ic (p := 51) d_215_50 ci_1 rfl (zX_and (p := 52) d_215_51 rfl (zX_goto (p := 72) d_215_52 (by decide) (zX_itg (p := 73) d_215_72 za_159 rfl (fun M11 => ?_)))))))
          refine zX_ii2 (p := 76) d_215_73 ci_1 rfl (zX_goto (p := 130) d_215_76 (by decide) (zX_ii3 (p := 133) d_215_130 ci_1 rfl (zX_goto (p := 4) d_215_133 (by decide) ?_)))
          exact ih (x1 + (1 : Int32)) (x2 + (1 : Int32)) M11 (.val (.int x5))

theorem s215 {q : ZQ} {d : Nat} (hL : zLay q) {a1 : Int32} {M : ZI} : zX q (d + 1) 215 0 [.val (.ref 148), .val (.int a1), .unset, .unset, .unset] [] M (f215_satisfies a1 M) zEm := by
  unfold f215_satisfies
  refine zX_ic (p := 1) d_215_0 ci_0 rfl (zX_isn2 (p := 2) d_215_1 rfl (zX_ic (p := 3) d_215_2 ci_0 rfl (zX_isn3 (p := 4) d_215_3 rfl ?_)))
  refine zX_bind (s215_l4 hL zfu (0 : Int32) (0 : Int32) M (.unset)) ?_
  rintro ⟨x12, M13⟩ ⟨s14, s15⟩
  try dsimp only
  refine zX_iln2 (p := 137) d_215_136 rfl ?_
  refine zX_zeq (p1 := 150) (p2 := 140) d_215_137 (by decide) rfl ?_ ?_
  · refine zX_ic (p := 151) d_215_150 ci_1 rfl (zX_goto (p := 155) d_215_151 (by decide) ?_)
    exact zX_retmb d_215_155 rt_215 (Or.inr rfl)
  · refine zX_aln0 (p := 141) d_215_140 rfl (zX_gr (p := 144) (b := 159) d_215_141 ow_215 gf_10_40 zo_148 (zr_10_12 hL zo_148) rfl (zX_ic (p := 145) d_215_144 ci_0 rfl (zX_iac (p := 146) d_215_145 za_159 rfl zin_0_420 zi_0 (zX_ic (p := 147) d_215_146 ci_1 rfl ?_))))
    refine zX_cne (p1 := 154) (p2 := 150) d_215_147 (by decide) rfl ?_ ?_
    · refine zX_ic (p := 155) d_215_154 ci_0 rfl ?_
      exact zX_retmb d_215_155 rt_215 (Or.inl rfl)
    · refine zX_ic (p := 151) d_215_150 ci_1 rfl (zX_goto (p := 155) d_215_151 (by decide) ?_)
      exact zX_retmb d_215_155 rt_215 (Or.inr rfl)

theorem s216 {q : ZQ} {d : Nat} (hL : zLay q) {a1 : Int32} {a2 : Int32} {M : ZI} : zX q (d + 6) 216 0 [.val (.ref 148), .val (.int a1), .val (.int a2), .unset] [] M (f216_isBefore a1 a2 M) zEm := by
  unfold f216_isBefore
  refine zX_iln2 (p := 1) d_216_0 rfl (zX_ic (p := 2) d_216_1 ci_m1 rfl ?_)
  refine zX_cne (p1 := 7) (p2 := 5) d_216_2 (by decide) rfl ?_ ?_
  · refine zX_aln0 (p := 8) d_216_7 rfl (zX_iln1 (p := 9) d_216_8 rfl (zX_cV1m (p := 12) ⟨ow_206, by decide⟩ zo_148 d_216_9 ow_216 rs_10_330 kk_206 rfl (s206 hL) rfl rfl rfl rfl (fun v1 M2 => ?_)))
    try dsimp only
    refine zX_aln0 (p := 13) d_216_12 rfl (zX_iln2 (p := 14) d_216_13 rfl (zX_cV1m (p := 17) ⟨ow_206, by decide⟩ zo_148 d_216_14 ow_216 rs_10_330 kk_206 rfl (s206 hL) rfl rfl rfl rfl (fun v3 M4 => ?_)))
    try dsimp only
    refine zX_sub (p := 18) d_216_17 rfl (zX_jsn3 (p := 19) d_216_18 rfl (fun x5 => ?_))
    refine zX_iln3 (p := 20) d_216_19 rfl ?_
    refine zX_zgt (p1 := 48) (p2 := 23) d_216_20 (by decide) rfl ?_ ?_
    · refine zX_ic (p := 49) d_216_48 ci_1 rfl (zX_goto (p := 53) d_216_49 (by decide) ?_)
      exact zX_retmb d_216_53 rt_216 (Or.inr rfl)
    · refine zX_iln3 (p := 24) d_216_23 rfl ?_
      refine zX_zne (p1 := 52) (p2 := 27) d_216_24 (by decide) rfl ?_ ?_
      · refine zX_ic (p := 53) d_216_52 ci_0 rfl ?_
        exact zX_retmb d_216_53 rt_216 (Or.inl rfl)
      · refine zX_aln0 (p := 28) d_216_27 rfl (zX_gr (p := 31) (b := 149) d_216_28 ow_216 gf_10_7 zo_148 (zr_10_0 hL zo_148) rfl (zX_bi (p := 33) d_216_31 cb_60 rfl (zX_iln1 (p := 34) d_216_33 rfl (zX_add (p := 35) d_216_34 rfl (zX_iag (p := 36) d_216_35 za_149 rfl (zX_aln0 (p := 37) d_216_36 rfl (zX_gr (p := 40) (b := 149) d_216_37 ow_216 gf_10_7 zo_148 (zr_10_0 hL zo_148) rfl ?_)))))))
        refine zX_bi (p := 42) d_216_40 cb_60 rfl (zX_iln2 (p := 43) d_216_42 rfl (zX_add (p := 44) d_216_43 rfl (zX_iag (p := 45) d_216_44 za_149 rfl ?_)))
        refine zX_cle (p1 := 52) (p2 := 48) d_216_45 (by decide) rfl ?_ ?_
        · refine zX_ic (p := 53) d_216_52 ci_0 rfl ?_
          exact zX_retmb d_216_53 rt_216 (Or.inl rfl)
        · refine zX_ic (p := 49) d_216_48 ci_1 rfl (zX_goto (p := 53) d_216_49 (by decide) ?_)
          exact zX_retmb d_216_53 rt_216 (Or.inr rfl)
  · refine zX_ic (p := 6) d_216_5 ci_1 rfl ?_
    exact zX_retmb d_216_6 rt_216 (Or.inr rfl)

theorem s205_l4 {q : ZQ} {d : Nat} (hL : zLay q)  : ∀ (n : Nat) (x1 : Int32) (x2 : Int32) (M3 : ZI), zX q (d + 7) 205 4 [.val (.ref 148), .val (.int x1), .val (.int x2)] [] M3 (f205_l4 n x1 x2 M3) (zEj q (d + 7) 205 52 (fun (b : Int32 × ZI) (s : Slot) => [.val (.ref 148), .val (.int b.1), s]) (fun b => []) (fun b => b.2)) := by
  intro n
  induction n with
  | zero => intros; exact zX_none
  | succ n ih =>
    intro x1 x2 M3
    rw [f205_l4]
    refine zX_iln2 (p := 5) d_205_4 rfl (zX_aln0 (p := 6) d_205_5 rfl (zX_gr (p := 9) (b := 149) d_205_6 ow_205 gf_10_7 zo_148 (zr_10_0 hL zo_148) rfl (zX_bi (p := 11) d_205_9 cb_48 rfl (zX_iac (p := 12) d_205_11 za_149 rfl zin_48_2064 zi_48 ?_))))
    refine zX_cge (p1 := 52) (p2 := 15) d_205_12 (by decide) rfl ?_ ?_
    · exact zX_leaf (fun _ _ h => h (.val (.int x2)))
    · refine zX_aln0 (p := 16) d_205_15 rfl (zX_iln2 (p := 17) d_205_16 rfl (zX_cV1m (p := 20) ⟨ow_206, by decide⟩ zo_148 d_205_17 ow_205 rs_10_330 kk_206 rfl (s206 hL) rfl rfl rfl rfl (fun v4 M5 => ?_)))
      try dsimp only
      refine zX_zle (p1 := 46) (p2 := 23) d_205_20 (by decide) rfl ?_ ?_
      · refine zX_ii2 (p := 49) d_205_46 ci_1 rfl (zX_goto (p := 4) d_205_49 (by decide) ?_)
        exact ih x1 (x2 + (1 : Int32)) M5
      · refine zX_aln0 (p := 24) d_205_23 rfl (zX_aln0 (p := 25) d_205_24 rfl (zX_iln2 (p := 26) d_205_25 rfl (zX_cV1i (p := 29) ⟨ow_214, by decide⟩ zo_148 d_205_26 ow_205 rs_10_333 kk_214 rfl (s214 hL) rfl rfl rfl rfl (fun v6 => ?_))))
        refine zX_cV1m (p := 32) ⟨ow_215, by decide⟩ zo_148 d_205_29 ow_205 rs_10_336 kk_215 rfl (s215 hL) rfl rfl rfl rfl (fun v7 M8 => ?_)
        try dsimp only
        refine zX_zeq (p1 := 46) (p2 := 35) d_205_32 (by decide) rfl ?_ ?_
        · refine zX_ii2 (p := 49) d_205_46 ci_1 rfl (zX_goto (p := 4) d_205_49 (by decide) ?_)
          exact ih x1 (x2 + (1 : Int32)) M8
        · refine zX_aln0 (p := 36) d_205_35 rfl (zX_iln2 (p := 37) d_205_36 rfl (zX_iln1 (p := 38) d_205_37 rfl (zX_cV2m (p := 41) ⟨ow_216, by decide⟩ zo_148 d_205_38 ow_205 rs_10_339 kk_216 rfl (s216 hL) rfl rfl rfl rfl (fun v9 M10 => ?_))))
          try dsimp only
          refine zX_zeq (p1 := 46) (p2 := 44) d_205_41 (by decide) rfl ?_ ?_
          · refine zX_ii2 (p := 49) d_205_46 ci_1 rfl (zX_goto (p := 4) d_205_49 (by decide) ?_)
            exact ih x1 (x2 + (1 : Int32)) M10
          · refine zX_iln2 (p := 45) d_205_44 rfl (zX_isn1 (p := 46) d_205_45 rfl (zX_ii2 (p := 49) d_205_46 ci_1 rfl (zX_goto (p := 4) d_205_49 (by decide) ?_)))
            exact ih x2 (x2 + (1 : Int32)) M10

theorem s205 {q : ZQ} {d : Nat} (hL : zLay q) {M : ZI} : zX q (d + 7) 205 0 [.val (.ref 148), .unset, .unset] [] M (f205_givenNow M) zEm := by
  unfold f205_givenNow
  refine zX_ic (p := 1) d_205_0 ci_m1 rfl (zX_isn1 (p := 2) d_205_1 rfl (zX_ic (p := 3) d_205_2 ci_0 rfl (zX_isn2 (p := 4) d_205_3 rfl ?_)))
  refine zX_bind (s205_l4 hL zfu (-1 : Int32) (0 : Int32) M) ?_
  rintro ⟨x11, M12⟩ s13
  try dsimp only
  refine zX_iln1 (p := 53) d_205_52 rfl ?_
  exact zX_retm d_205_53 rt_205

theorem s217 {q : ZQ} {d : Nat} (hL : zLay q) {a1 : Int32} {a2 : Int32} {a3 : Int32} {M : ZI} : zX q d 217 0 [.val (.ref 148), .val (.int a1), .val (.int a2), .val (.int a3), .unset] [] M (f217_notes a1 a2 a3 M) zEv := by
  unfold f217_notes
  refine zX_aln0 (p := 1) d_217_0 rfl (zX_gib (p := 4) d_217_1 ow_217 gf_10_342 zo_148 rfl ?_)
  refine zX_zeq (p1 := 19) (p2 := 7) d_217_4 (by decide) rfl ?_ ?_
  · exact zX_retv d_217_19 rt_217
  · refine zX_aln0 (p := 8) d_217_7 rfl (zX_gr (p := 11) (b := 149) d_217_8 ow_217 gf_10_7 zo_148 (zr_10_0 hL zo_148) rfl (zX_ic (p := 12) d_217_11 ci_5 rfl (zX_iac (p := 13) d_217_12 za_149 rfl zin_5_2064 zi_5 (zX_si (p := 16) d_217_13 cs_150 rfl ?_))))
    refine zX_cne (p1 := 20) (p2 := 19) d_217_16 (by decide) rfl ?_ ?_
    · refine zX_si (p := 23) d_217_20 cs_578 rfl (zX_ic (p := 24) d_217_23 ci_4 rfl (zX_aln0 (p := 25) d_217_24 rfl (zX_gr (p := 28) (b := 149) d_217_25 ow_217 gf_10_7 zo_148 (zr_10_0 hL zo_148) rfl (zX_ic (p := 29) d_217_28 ci_5 rfl (zX_iac (p := 30) d_217_29 za_149 rfl zin_5_2064 zi_5 (zX_mul (p := 31) d_217_30 rfl (zX_add (p := 32) d_217_31 rfl ?_)))))))
      refine zX_js4 (p := 34) d_217_32 rfl (fun x1 => ?_)
      refine zX_aln0 (p := 35) d_217_34 rfl (zX_gr (p := 38) (b := 149) d_217_35 ow_217 gf_10_7 zo_148 (zr_10_0 hL zo_148) rfl (zX_il4 (p := 40) d_217_38 rfl (zX_aln0 (p := 41) d_217_40 rfl (zX_gr (p := 44) (b := 149) d_217_41 ow_217 gf_10_7 zo_148 (zr_10_0 hL zo_148) rfl (zX_ic (p := 45) d_217_44 ci_0 rfl (zX_iac (p := 46) d_217_45 za_149 rfl zin_0_2064 zi_0 (zX_itg (p := 47) d_217_46 za_149 rfl (fun M2 => ?_))))))))
      refine zX_aln0 (p := 48) d_217_47 rfl (zX_gr (p := 51) (b := 149) d_217_48 ow_217 gf_10_7 zo_148 (zr_10_0 hL zo_148) rfl (zX_il4 (p := 53) d_217_51 rfl (zX_ic (p := 54) d_217_53 ci_1 rfl (zX_add (p := 55) d_217_54 rfl (zX_iln1 (p := 56) d_217_55 rfl (zX_itg (p := 57) d_217_56 za_149 rfl (fun M3 => ?_)))))))
      refine zX_aln0 (p := 58) d_217_57 rfl (zX_gr (p := 61) (b := 149) d_217_58 ow_217 gf_10_7 zo_148 (zr_10_0 hL zo_148) rfl (zX_il4 (p := 63) d_217_61 rfl (zX_ic (p := 64) d_217_63 ci_2 rfl (zX_add (p := 65) d_217_64 rfl (zX_iln2 (p := 66) d_217_65 rfl (zX_itg (p := 67) d_217_66 za_149 rfl (fun M4 => ?_)))))))
      refine zX_aln0 (p := 68) d_217_67 rfl (zX_gr (p := 71) (b := 149) d_217_68 ow_217 gf_10_7 zo_148 (zr_10_0 hL zo_148) rfl (zX_il4 (p := 73) d_217_71 rfl (zX_ic (p := 74) d_217_73 ci_3 rfl (zX_add (p := 75) d_217_74 rfl (zX_iln3 (p := 76) d_217_75 rfl (zX_itg (p := 77) d_217_76 za_149 rfl (fun M5 => ?_)))))))
      refine zX_aln0 (p := 78) d_217_77 rfl (zX_gr (p := 81) (b := 149) d_217_78 ow_217 gf_10_7 zo_148 (zr_10_0 hL zo_148) rfl (zX_ic (p := 82) d_217_81 ci_5 rfl (zX_dup2 (p := 83) d_217_82 rfl rfl rfl (zX_iac (p := 84) d_217_83 za_149 rfl zin_5_2064 zi_5 (zX_ic (p := 85) d_217_84 ci_1 rfl (zX_add (p := 86) d_217_85 rfl (zX_itc (p := 87) d_217_86 za_149 rfl zin_5_2064 zi_5 (fun M6 => ?_))))))))
      exact zX_retv d_217_87 rt_217
    · exact zX_retv d_217_19 rt_217

theorem s219 {q : ZQ} {d : Nat} (hL : zLay q) {M : ZI} : zX q d 219 0 [.val (.ref 148)] [] M (f219_hoursNow M) (zEi M) := by
  unfold f219_hoursNow
  refine zX_bi (p := 2) d_219_0 cb_24 rfl (zX_aln0 (p := 3) d_219_2 rfl (zX_gr (p := 6) (b := 149) d_219_3 ow_219 gf_10_7 zo_148 (zr_10_0 hL zo_148) rfl (zX_ic (p := 7) d_219_6 ci_1 rfl (zX_iac (p := 8) d_219_7 za_149 rfl zin_1_2064 zi_1 (zX_sub (p := 9) d_219_8 rfl ?_)))))
  exact zX_reti d_219_9 rt_219

theorem s222 {q : ZQ} {d : Nat} (hL : zLay q) {a1 : Int32} {a2 : Int32} {M : ZI} : zX q d 222 0 [.val (.ref 148), .val (.int a1), .val (.int a2)] [] M (f222_ofWork a1 a2 M) (zEi M) := by
  unfold f222_ofWork
  refine zX_aln0 (p := 1) d_222_0 rfl (zX_gr (p := 4) (b := 149) d_222_1 ow_222 gf_10_7 zo_148 (zr_10_0 hL zo_148) rfl (zX_bi (p := 6) d_222_4 cb_90 rfl (zX_bi (p := 8) d_222_6 cb_6 rfl (zX_iln1 (p := 9) d_222_8 rfl (zX_mul (p := 10) d_222_9 rfl (zX_add (p := 11) d_222_10 rfl (zX_iln2 (p := 12) d_222_11 rfl ?_)))))))
  refine zX_add (p := 13) d_222_12 rfl (zX_iag (p := 14) d_222_13 za_149 rfl ?_)
  exact zX_reti d_222_14 rt_222

theorem s221_l5 {q : ZQ} {d : Nat} (hL : zLay q) {a1 : Int32} {a2 : Int32} {M : ZI} : ∀ (n : Nat) (x1 : Int32) (x2 : Int32), zX q (d + 1) 221 5 [.val (.ref 148), .val (.int a1), .val (.int a2), .val (.int x1), .val (.int x2)] [] M (f221_l5 a1 a2 M n x1 x2) (zEj q (d + 1) 221 47 (fun (b : Int32) (s : Slot) => [.val (.ref 148), .val (.int a1), .val (.int a2), .val (.int b), s]) (fun b => []) (fun b => M)) := by
  intro n
  induction n with
  | zero => intros; exact zX_none
  | succ n ih =>
    intro x1 x2
    rw [f221_l5]
    refine zX_il4 (p := 7) d_221_5 rfl (zX_aln0 (p := 8) d_221_7 rfl (zX_gr (p := 11) (b := 149) d_221_8 ow_221 gf_10_7 zo_148 (zr_10_0 hL zo_148) rfl (zX_bi (p := 13) d_221_11 cb_52 rfl (zX_iac (p := 14) d_221_13 za_149 rfl zin_52_2064 zi_52 ?_))))
    refine zX_cge (p1 := 47) (p2 := 17) d_221_14 (by decide) rfl ?_ ?_
    · exact zX_leaf (fun _ _ h => h (.val (.int x2)))
    · refine zX_iln3 (p := 18) d_221_17 rfl (zX_iln1 (p := 19) d_221_18 rfl (zX_il4 (p := 21) d_221_19 rfl (zX_shr (p := 22) d_221_21 rfl (zX_ic (p := 23) d_221_22 ci_1 rfl (zX_and (p := 24) d_221_23 rfl (zX_ic (p := 25) d_221_24 ci_1 rfl ?_))))))
      refine zX_cne (p1 := 38) (p2 := 28) d_221_25 (by decide) rfl ?_ ?_
      · refine zX_ic (p := 39) d_221_38 ci_0 rfl (zX_add (p := 40) d_221_39 rfl (zX_jsn3 (p := 41) d_221_40 rfl (fun x3 => ?_)))
        refine zX_ii4 (p := 44) d_221_41 ci_1 rfl (zX_goto (p := 5) d_221_44 (by decide) ?_)
        exact ih x3 (x2 + (1 : Int32))
      · refine zX_aln0 (p := 29) d_221_28 rfl (zX_il4 (p := 31) d_221_29 rfl (zX_iln2 (p := 32) d_221_31 rfl (zX_cV2i (p := 35) ⟨ow_222, by decide⟩ zo_148 d_221_32 ow_221 rs_10_368 kk_222 rfl (s222 hL) rfl rfl rfl rfl (fun v4 => ?_))))
        refine zX_goto (p := 39) d_221_35 (by decide) (zX_add (p := 40) d_221_39 rfl (zX_jsn3 (p := 41) d_221_40 rfl (fun x5 => ?_)))
        refine zX_ii4 (p := 44) d_221_41 ci_1 rfl (zX_goto (p := 5) d_221_44 (by decide) ?_)
        exact ih x5 (x2 + (1 : Int32))

theorem s221 {q : ZQ} {d : Nat} (hL : zLay q) {a1 : Int32} {a2 : Int32} {M : ZI} : zX q (d + 1) 221 0 [.val (.ref 148), .val (.int a1), .val (.int a2), .unset, .unset] [] M (f221_sumOf a1 a2 M) (zEi M) := by
  unfold f221_sumOf
  refine zX_ic (p := 1) d_221_0 ci_0 rfl (zX_isn3 (p := 2) d_221_1 rfl (zX_ic (p := 3) d_221_2 ci_0 rfl (zX_is4 (p := 5) d_221_3 rfl ?_)))
  refine zX_bind (s221_l5 hL zfu (0 : Int32) (0 : Int32)) ?_
  rintro x6 s7
  try dsimp only
  refine zX_iln3 (p := 48) d_221_47 rfl ?_
  exact zX_reti d_221_48 rt_221

theorem s224 {q : ZQ} {d : Nat} (hL : zLay q) {a1 : Int32} {M : ZI} : zX q d 224 0 [.val (.ref 148), .val (.int a1)] [] M (f224_isDone a1 M) (zEi M) := by
  unfold f224_isDone
  refine zX_aln0 (p := 1) d_224_0 rfl (zX_gr (p := 4) (b := 149) d_224_1 ow_224 gf_10_7 zo_148 (zr_10_0 hL zo_148) rfl (zX_bi (p := 6) d_224_4 cb_6 rfl (zX_iac (p := 7) d_224_6 za_149 rfl zin_6_2064 zi_6 (zX_iln1 (p := 8) d_224_7 rfl (zX_shr (p := 9) d_224_8 rfl (zX_ic (p := 10) d_224_9 ci_1 rfl (zX_and (p := 11) d_224_10 rfl ?_)))))))
  refine zX_ic (p := 12) d_224_11 ci_1 rfl ?_
  refine zX_cne (p1 := 19) (p2 := 15) d_224_12 (by decide) rfl ?_ ?_
  · refine zX_ic (p := 20) d_224_19 ci_0 rfl ?_
    exact zX_retib d_224_20 rt_224 (Or.inl rfl)
  · refine zX_ic (p := 16) d_224_15 ci_1 rfl (zX_goto (p := 20) d_224_16 (by decide) ?_)
    exact zX_retib d_224_20 rt_224 (Or.inr rfl)

theorem s223_l2 {q : ZQ} {d : Nat} (hL : zLay q) {a1 : Int32} {a2 : Int32} {M : ZI} : ∀ (n : Nat) (x1 : Int32) (s2 : Slot), zX q (d + 1) 223 2 [.val (.ref 148), .val (.int a1), .val (.int a2), .val (.int x1), s2] [] M (f223_l2 a1 a2 M n x1) (zEi M) := by
  intro n
  induction n with
  | zero => intros; exact zX_none
  | succ n ih =>
    intro x1 s2
    rw [f223_l2]
    refine zX_iln3 (p := 3) d_223_2 rfl (zX_aln0 (p := 4) d_223_3 rfl (zX_gr (p := 7) (b := 149) d_223_4 ow_223 gf_10_7 zo_148 (zr_10_0 hL zo_148) rfl (zX_bi (p := 9) d_223_7 cb_52 rfl (zX_iac (p := 10) d_223_9 za_149 rfl zin_52_2064 zi_52 ?_))))
    refine zX_cge (p1 := 74) (p2 := 13) d_223_10 (by decide) rfl ?_ ?_
    · refine zX_ic (p := 75) d_223_74 ci_1 rfl ?_
      exact zX_retib d_223_75 rt_223 (Or.inr rfl)
    · refine zX_iln1 (p := 14) d_223_13 rfl (zX_iln3 (p := 15) d_223_14 rfl (zX_shr (p := 16) d_223_15 rfl (zX_ic (p := 17) d_223_16 ci_1 rfl (zX_and (p := 18) d_223_17 rfl ?_))))
      refine zX_zne (p1 := 24) (p2 := 21) d_223_18 (by decide) rfl ?_ ?_
      · refine zX_aln0 (p := 25) d_223_24 rfl (zX_iln3 (p := 26) d_223_25 rfl (zX_ic (p := 27) d_223_26 ci_5 rfl (zX_cV2i (p := 30) ⟨ow_222, by decide⟩ zo_148 d_223_27 ow_223 rs_10_368 kk_222 rfl (s222 hL) rfl rfl rfl rfl (fun v3 => ?_))))
        refine zX_is4 (p := 32) d_223_30 rfl (zX_aln0 (p := 33) d_223_32 rfl (zX_iln3 (p := 34) d_223_33 rfl (zX_ic (p := 35) d_223_34 ci_0 rfl (zX_cV2i (p := 38) ⟨ow_222, by decide⟩ zo_148 d_223_35 ow_223 rs_10_368 kk_222 rfl (s222 hL) rfl rfl rfl rfl (fun v4 => ?_)))))
        refine zX_iln2 (p := 39) d_223_38 rfl ?_
        refine zX_cne (p1 := 66) (p2 := 42) d_223_39 (by decide) rfl ?_ ?_
        · refine zX_ic (p := 67) d_223_66 ci_0 rfl ?_
          exact zX_retib d_223_67 rt_223 (Or.inl rfl)
        · refine zX_il4 (p := 44) d_223_42 rfl (zX_ic (p := 45) d_223_44 ci_m1 rfl ?_)
          refine zX_ceq (p1 := 68) (p2 := 48) d_223_45 (by decide) rfl ?_ ?_
          · refine zX_ii3 (p := 71) d_223_68 ci_1 rfl (zX_goto (p := 2) d_223_71 (by decide) ?_)
            exact ih (x1 + (1 : Int32)) (.val (.int v3))
          · refine zX_aln0 (p := 49) d_223_48 rfl (zX_il4 (p := 51) d_223_49 rfl (zX_cV1i (p := 54) ⟨ow_224, by decide⟩ zo_148 d_223_51 ow_223 rs_10_383 kk_224 rfl (s224 hL) rfl rfl rfl rfl (fun v5 => ?_)))
            refine zX_zne (p1 := 68) (p2 := 57) d_223_54 (by decide) rfl ?_ ?_
            · refine zX_ii3 (p := 71) d_223_68 ci_1 rfl (zX_goto (p := 2) d_223_71 (by decide) ?_)
              exact ih (x1 + (1 : Int32)) (.val (.int v3))
            · refine zX_iln1 (p := 58) d_223_57 rfl (zX_il4 (p := 60) d_223_58 rfl (zX_shr (p := 61) d_223_60 rfl (zX_ic (p := 62) d_223_61 ci_1 rfl (zX_and (p := 63) d_223_62 rfl ?_))))
              refine zX_zne (p1 := 68) (p2 := 66) d_223_63 (by decide) rfl ?_ ?_
              · refine zX_ii3 (p := 71) d_223_68 ci_1 rfl (zX_goto (p := 2) d_223_71 (by decide) ?_)
                exact ih (x1 + (1 : Int32)) (.val (.int v3))
              · refine zX_ic (p := 67) d_223_66 ci_0 rfl ?_
                exact zX_retib d_223_67 rt_223 (Or.inl rfl)
      · refine zX_goto (p := 68) d_223_21 (by decide) (zX_ii3 (p := 71) d_223_68 ci_1 rfl (zX_goto (p := 2) d_223_71 (by decide) ?_))
        exact ih (x1 + (1 : Int32)) (s2)

theorem s223 {q : ZQ} {d : Nat} (hL : zLay q) {a1 : Int32} {a2 : Int32} {M : ZI} : zX q (d + 1) 223 0 [.val (.ref 148), .val (.int a1), .val (.int a2), .unset, .unset] [] M (f223_goTogether a1 a2 M) (zEi M) := by
  unfold f223_goTogether
  refine zX_ic (p := 1) d_223_0 ci_0 rfl (zX_isn3 (p := 2) d_223_1 rfl ?_)
  exact s223_l2 hL zfu (0 : Int32) (.unset)

theorem s220_l5 {q : ZQ} {d : Nat} (hL : zLay q) {a1 : Int32} {a2 : Int32} {M : ZI} : ∀ (n : Nat) (x1 : Int32) (x2 : Int32) (s3 : Slot), zX q (d + 2) 220 5 [.val (.ref 148), .val (.int a1), .val (.int a2), .val (.int x1), .val (.int x2), s3] [] M (f220_l5 a1 a2 M n x1 x2) (zEj q (d + 2) 220 107 (fun (b : Int32) (s : Slot × Slot) => [.val (.ref 148), .val (.int a1), .val (.int a2), .val (.int b), s.1, s.2]) (fun b => []) (fun b => M)) := by
  intro n
  induction n with
  | zero => intros; exact zX_none
  | succ n ih =>
    intro x1 x2 s3
    rw [f220_l5]
    refine zX_il4 (p := 7) d_220_5 rfl (zX_ic (p := 8) d_220_7 ci_1 rfl (zX_aln0 (p := 9) d_220_8 rfl (zX_gr (p := 12) (b := 149) d_220_9 ow_220 gf_10_7 zo_148 (zr_10_0 hL zo_148) rfl (zX_bi (p := 14) d_220_12 cb_52 rfl (zX_iac (p := 15) d_220_14 za_149 rfl zin_52_2064 zi_52 (zX_shl (p := 16) d_220_15 rfl ?_))))))
    refine zX_cge (p1 := 107) (p2 := 19) d_220_16 (by decide) rfl ?_ ?_
    · exact zX_leaf (fun _ _ h => h (.val (.int x2), s3))
    · refine zX_il4 (p := 21) d_220_19 rfl (zX_aln0 (p := 22) d_220_21 rfl (zX_gr (p := 25) (b := 149) d_220_22 ow_220 gf_10_7 zo_148 (zr_10_0 hL zo_148) rfl (zX_bi (p := 27) d_220_25 cb_6 rfl (zX_iac (p := 28) d_220_27 za_149 rfl zin_6_2064 zi_6 (zX_and (p := 29) d_220_28 rfl ?_)))))
      refine zX_zne (p1 := 101) (p2 := 32) d_220_29 (by decide) rfl ?_ ?_
      · refine zX_ii4 (p := 104) d_220_101 ci_1 rfl (zX_goto (p := 5) d_220_104 (by decide) ?_)
        exact ih x1 (x2 + (1 : Int32)) (s3)
      · refine zX_aln0 (p := 33) d_220_32 rfl (zX_il4 (p := 35) d_220_33 rfl (zX_ic (p := 36) d_220_35 ci_1 rfl (zX_cV2i (p := 39) ⟨ow_221, by decide⟩ zo_148 d_220_36 ow_220 rs_10_355 kk_221 rfl (s221 hL) rfl rfl rfl rfl (fun v4 => ?_))))
        refine zX_iln2 (p := 40) d_220_39 rfl ?_
        refine zX_cgt (p1 := 101) (p2 := 43) d_220_40 (by decide) rfl ?_ ?_
        · refine zX_ii4 (p := 104) d_220_101 ci_1 rfl (zX_goto (p := 5) d_220_104 (by decide) ?_)
          exact ih x1 (x2 + (1 : Int32)) (s3)
        · refine zX_aln0 (p := 44) d_220_43 rfl (zX_il4 (p := 46) d_220_44 rfl (zX_iln1 (p := 47) d_220_46 rfl (zX_cV2i (p := 50) ⟨ow_223, by decide⟩ zo_148 d_220_47 ow_220 rs_10_386 kk_223 rfl (s223 hL) rfl rfl rfl rfl (fun v5 => ?_))))
          refine zX_zne (p1 := 56) (p2 := 53) d_220_50 (by decide) rfl ?_ ?_
          · refine zX_aln0 (p := 57) d_220_56 rfl (zX_il4 (p := 59) d_220_57 rfl (zX_ic (p := 60) d_220_59 ci_2 rfl (zX_cV2i (p := 63) ⟨ow_221, by decide⟩ zo_148 d_220_60 ow_220 rs_10_355 kk_221 rfl (s221 hL) rfl rfl rfl rfl (fun v6 => ?_))))
            refine zX_aln0 (p := 64) d_220_63 rfl (zX_iln3 (p := 65) d_220_64 rfl (zX_ic (p := 66) d_220_65 ci_2 rfl (zX_cV2i (p := 69) ⟨ow_221, by decide⟩ zo_148 d_220_66 ow_220 rs_10_355 kk_221 rfl (s221 hL) rfl rfl rfl rfl (fun v7 => ?_))))
            refine zX_sub (p := 70) d_220_69 rfl (zX_js5 (p := 72) d_220_70 rfl (fun x8 => ?_))
            refine zX_il5 (p := 74) d_220_72 rfl ?_
            refine zX_zgt (p1 := 98) (p2 := 77) d_220_74 (by decide) rfl ?_ ?_
            · refine zX_il4 (p := 100) d_220_98 rfl (zX_isn3 (p := 101) d_220_100 rfl (zX_ii4 (p := 104) d_220_101 ci_1 rfl (zX_goto (p := 5) d_220_104 (by decide) ?_)))
              exact ih x2 (x2 + (1 : Int32)) (.val (.int x8))
            · refine zX_il5 (p := 79) d_220_77 rfl ?_
              refine zX_zne (p1 := 101) (p2 := 82) d_220_79 (by decide) rfl ?_ ?_
              · refine zX_ii4 (p := 104) d_220_101 ci_1 rfl (zX_goto (p := 5) d_220_104 (by decide) ?_)
                exact ih x1 (x2 + (1 : Int32)) (.val (.int x8))
              · refine zX_aln0 (p := 83) d_220_82 rfl (zX_il4 (p := 85) d_220_83 rfl (zX_ic (p := 86) d_220_85 ci_1 rfl (zX_cV2i (p := 89) ⟨ow_221, by decide⟩ zo_148 d_220_86 ow_220 rs_10_355 kk_221 rfl (s221 hL) rfl rfl rfl rfl (fun v9 => ?_))))
                refine zX_aln0 (p := 90) d_220_89 rfl (zX_iln3 (p := 91) d_220_90 rfl (zX_ic (p := 92) d_220_91 ci_1 rfl (zX_cV2i (p := 95) ⟨ow_221, by decide⟩ zo_148 d_220_92 ow_220 rs_10_355 kk_221 rfl (s221 hL) rfl rfl rfl rfl (fun v10 => ?_))))
                refine zX_cge (p1 := 101) (p2 := 98) d_220_95 (by decide) rfl ?_ ?_
                · refine zX_ii4 (p := 104) d_220_101 ci_1 rfl (zX_goto (p := 5) d_220_104 (by decide) ?_)
                  exact ih x1 (x2 + (1 : Int32)) (.val (.int x8))
                · refine zX_il4 (p := 100) d_220_98 rfl (zX_isn3 (p := 101) d_220_100 rfl (zX_ii4 (p := 104) d_220_101 ci_1 rfl (zX_goto (p := 5) d_220_104 (by decide) ?_)))
                  exact ih x2 (x2 + (1 : Int32)) (.val (.int x8))
          · refine zX_goto (p := 101) d_220_53 (by decide) (zX_ii4 (p := 104) d_220_101 ci_1 rfl (zX_goto (p := 5) d_220_104 (by decide) ?_))
            exact ih x1 (x2 + (1 : Int32)) (s3)

theorem s220 {q : ZQ} {d : Nat} (hL : zLay q) {a1 : Int32} {a2 : Int32} {M : ZI} : zX q (d + 2) 220 0 [.val (.ref 148), .val (.int a1), .val (.int a2), .unset, .unset, .unset] [] M (f220_planOf a1 a2 M) (zEi M) := by
  unfold f220_planOf
  refine zX_ic (p := 1) d_220_0 ci_0 rfl (zX_isn3 (p := 2) d_220_1 rfl (zX_ic (p := 3) d_220_2 ci_1 rfl (zX_is4 (p := 5) d_220_3 rfl ?_)))
  refine zX_bind (s220_l5 hL zfu (0 : Int32) (1 : Int32) (.unset)) ?_
  rintro x11 ⟨s12, s13⟩
  try dsimp only
  refine zX_iln3 (p := 108) d_220_107 rfl ?_
  exact zX_reti d_220_108 rt_220

theorem s225 {q : ZQ} {d : Nat} (hL : zLay q) {a1 : Int32} {a2 : Int32} {M : ZI} : zX q (d + 4) 225 0 [.val (.ref 148), .val (.int a1), .val (.int a2)] [] M (f225_wearOf a1 a2 M) zEm := by
  unfold f225_wearOf
  refine zX_aln0 (p := 1) d_225_0 rfl (zX_bi (p := 3) d_225_1 cb_21 rfl (zX_iln1 (p := 4) d_225_3 rfl (zX_iln2 (p := 5) d_225_4 rfl (zX_iln2 (p := 6) d_225_5 rfl (zX_bi (p := 8) d_225_6 cb_8 rfl (zX_div (p := 9) d_225_8 (by decide) rfl (zX_bi (p := 11) d_225_9 cb_24 rfl ?_)))))))
  refine zX_cV5m (p := 14) ⟨ow_208, by decide⟩ zo_148 d_225_11 ow_225 rs_10_323 kk_208 rfl (s208 hL) rfl rfl rfl rfl (fun v1 M2 => ?_)
  try dsimp only
  exact zX_retm d_225_14 rt_225

theorem s226 {q : ZQ} {d : Nat} (hL : zLay q) {a1 : Int32} {a2 : Int32} {M : ZI} : zX q (d + 4) 226 0 [.val (.ref 148), .val (.int a1), .val (.int a2)] [] M (f226_noticeOf a1 a2 M) zEm := by
  unfold f226_noticeOf
  refine zX_aln0 (p := 1) d_226_0 rfl (zX_bi (p := 3) d_226_1 cb_22 rfl (zX_iln1 (p := 4) d_226_3 rfl (zX_iln2 (p := 5) d_226_4 rfl (zX_bi (p := 7) d_226_5 cb_100 rfl (zX_si (p := 10) d_226_7 cs_1000 rfl (zX_cV5m (p := 13) ⟨ow_208, by decide⟩ zo_148 d_226_10 ow_226 rs_10_323 kk_208 rfl (s208 hL) rfl rfl rfl rfl (fun v1 M2 => ?_)))))))
  try dsimp only
  exact zX_retm d_226_13 rt_226

theorem s227 {q : ZQ} {d : Nat} (hL : zLay q) {a1 : Int32} {M : ZI} : zX q d 227 0 [.val (.ref 148), .val (.int a1)] [] M (f227_draw a1 M) zEm := by
  unfold f227_draw
  refine zX_aln0 (p := 1) d_227_0 rfl (zX_gr (p := 4) (b := 149) d_227_1 ow_227 gf_10_7 zo_148 (zr_10_0 hL zo_148) rfl (zX_ic (p := 5) d_227_4 ci_4 rfl (zX_ldc (p := 7) d_227_5 ow_227 ks_10_63 kn_10_63 rfl (zX_aln0 (p := 8) d_227_7 rfl (zX_gr (p := 11) (b := 149) d_227_8 ow_227 gf_10_7 zo_148 (zr_10_0 hL zo_148) rfl (zX_ic (p := 12) d_227_11 ci_4 rfl (zX_iac (p := 13) d_227_12 za_149 rfl zin_4_2064 zi_4 ?_)))))))
  refine zX_mul (p := 14) d_227_13 rfl (zX_ldc (p := 16) d_227_14 ow_227 ks_10_64 kn_10_64 rfl (zX_add (p := 17) d_227_16 rfl (zX_itc (p := 18) d_227_17 za_149 rfl zin_4_2064 zi_4 (fun M1 => ?_))))
  refine zX_aln0 (p := 19) d_227_18 rfl (zX_gr (p := 22) (b := 149) d_227_19 ow_227 gf_10_7 zo_148 (zr_10_0 hL zo_148) rfl (zX_ic (p := 23) d_227_22 ci_4 rfl (zX_iac (p := 24) d_227_23 za_149 rfl zin_4_2064 zi_4 (zX_bi (p := 26) d_227_24 cb_8 rfl (zX_ush (p := 27) d_227_26 rfl (zX_iln1 (p := 28) d_227_27 rfl (zX_remg (p := 29) d_227_28 rfl ?_)))))))
  exact zX_retm d_227_29 rt_227

theorem s218_l69 {q : ZQ} {d : Nat} (hL : zLay q) {a1 : Int32} {v2 : Int32} {v3 : Int32} {v7 : Int32} {v9 : Int32} : ∀ (n : Nat) (x12 : Int32) (M13 : ZI), zX q (d + 5) 218 69 [.val (.ref 148), .val (.int a1), .val (.int v2), .val (.int v3), .val (.int v7), .val (.int v9), .val (.int x12)] [] M13 (f218_l69 v2 n x12 M13) (zEj q (d + 5) 218 111 (fun (b : ZI) (s : Slot) => [.val (.ref 148), .val (.int a1), .val (.int v2), .val (.int v3), .val (.int v7), .val (.int v9), s]) (fun b => []) (fun b => b)) := by
  intro n
  induction n with
  | zero => intros; exact zX_none
  | succ n ih =>
    intro x12 M13
    rw [f218_l69]
    refine zX_il6 (p := 71) d_218_69 rfl (zX_aln0 (p := 72) d_218_71 rfl (zX_gr (p := 75) (b := 149) d_218_72 ow_218 gf_10_7 zo_148 (zr_10_0 hL zo_148) rfl (zX_bi (p := 77) d_218_75 cb_52 rfl (zX_iac (p := 78) d_218_77 za_149 rfl zin_52_2064 zi_52 ?_))))
    refine zX_cge (p1 := 111) (p2 := 81) d_218_78 (by decide) rfl ?_ ?_
    · exact zX_leaf (fun _ _ h => h (.val (.int x12)))
    · refine zX_iln2 (p := 82) d_218_81 rfl (zX_il6 (p := 84) d_218_82 rfl (zX_shr (p := 85) d_218_84 rfl (zX_ic (p := 86) d_218_85 ci_1 rfl (zX_and (p := 87) d_218_86 rfl (zX_ic (p := 88) d_218_87 ci_1 rfl ?_)))))
      refine zX_cne (p1 := 105) (p2 := 91) d_218_88 (by decide) rfl ?_ ?_
      · refine zX_ii6 (p := 108) d_218_105 ci_1 rfl (zX_goto (p := 69) d_218_108 (by decide) ?_)
        exact ih (x12 + (1 : Int32)) M13
      · refine zX_aln0 (p := 92) d_218_91 rfl (zX_ic (p := 93) d_218_92 ci_3 rfl (zX_il6 (p := 95) d_218_93 rfl (zX_aln0 (p := 96) d_218_95 rfl (zX_il6 (p := 98) d_218_96 rfl (zX_ic (p := 99) d_218_98 ci_1 rfl (zX_cV2i (p := 102) ⟨ow_222, by decide⟩ zo_148 d_218_99 ow_218 rs_10_368 kk_222 rfl (s222 hL) rfl rfl rfl rfl (fun v14 => ?_)))))))
        refine zX_cV3v (p := 105) ⟨ow_217, by decide⟩ zo_148 d_218_102 ow_218 rs_10_364 kk_217 rfl (s217 hL) rfl rfl rfl rfl (fun M15 => ?_)
        refine zX_ii6 (p := 108) d_218_105 ci_1 rfl (zX_goto (p := 69) d_218_108 (by decide) ?_)
        exact ih (x12 + (1 : Int32)) M15

theorem s218 {q : ZQ} {d : Nat} (hL : zLay q) {a1 : Int32} {M : ZI} : zX q (d + 5) 218 0 [.val (.ref 148), .val (.int a1), .unset, .unset, .unset, .unset, .unset] [] M (f218_gets a1 M) zEv := by
  unfold f218_gets
  refine zX_aln0 (p := 1) d_218_0 rfl (zX_iln1 (p := 2) d_218_1 rfl (zX_aln0 (p := 3) d_218_2 rfl (zX_cV0i (p := 6) ⟨ow_219, by decide⟩ zo_148 d_218_3 ow_218 rs_10_349 kk_219 rfl (s219 hL) rfl rfl rfl rfl (fun v1 => ?_))))
  refine zX_cV2i (p := 9) ⟨ow_220, by decide⟩ zo_148 d_218_6 ow_218 rs_10_352 kk_220 rfl (s220 hL) rfl rfl rfl rfl (fun v2 => ?_)
  refine zX_isn2 (p := 10) d_218_9 rfl (zX_aln0 (p := 11) d_218_10 rfl (zX_iln2 (p := 12) d_218_11 rfl (zX_ic (p := 13) d_218_12 ci_1 rfl (zX_cV2i (p := 16) ⟨ow_221, by decide⟩ zo_148 d_218_13 ow_218 rs_10_355 kk_221 rfl (s221 hL) rfl rfl rfl rfl (fun v3 => ?_)))))
  refine zX_isn3 (p := 17) d_218_16 rfl (zX_aln0 (p := 18) d_218_17 rfl (zX_gr (p := 21) (b := 149) d_218_18 ow_218 gf_10_7 zo_148 (zr_10_0 hL zo_148) rfl (zX_bi (p := 23) d_218_21 cb_6 rfl (zX_dup2 (p := 24) d_218_23 rfl rfl rfl (zX_iac (p := 25) d_218_24 za_149 rfl zin_6_2064 zi_6 (zX_iln2 (p := 26) d_218_25 rfl (zX_or (p := 27) d_218_26 rfl ?_)))))))
  refine zX_itc (p := 28) d_218_27 za_149 rfl zin_6_2064 zi_6 (fun M4 => ?_)
  refine zX_aln0 (p := 29) d_218_28 rfl (zX_gr (p := 32) (b := 149) d_218_29 ow_218 gf_10_7 zo_148 (zr_10_0 hL zo_148) rfl (zX_ic (p := 33) d_218_32 ci_3 rfl (zX_dup2 (p := 34) d_218_33 rfl rfl rfl (zX_iac (p := 35) d_218_34 za_149 rfl zin_3_2064 zi_3 (zX_aln0 (p := 36) d_218_35 rfl (zX_iln2 (p := 37) d_218_36 rfl (zX_ic (p := 38) d_218_37 ci_2 rfl ?_)))))))
  refine zX_cV2i (p := 41) ⟨ow_221, by decide⟩ zo_148 d_218_38 ow_218 rs_10_355 kk_221 rfl (s221 hL) rfl rfl rfl rfl (fun v5 => ?_)
  refine zX_add (p := 42) d_218_41 rfl (zX_itc (p := 43) d_218_42 za_149 rfl zin_3_2064 zi_3 (fun M6 => ?_))
  refine zX_aln0 (p := 44) d_218_43 rfl (zX_iln1 (p := 45) d_218_44 rfl (zX_iln3 (p := 46) d_218_45 rfl (zX_cV2m (p := 49) ⟨ow_225, by decide⟩ zo_148 d_218_46 ow_218 rs_10_358 kk_225 rfl (s225 hL) rfl rfl rfl rfl (fun v7 M8 => ?_))))
  try dsimp only
  refine zX_is4 (p := 51) d_218_49 rfl (zX_aln0 (p := 52) d_218_51 rfl (zX_iln1 (p := 53) d_218_52 rfl (zX_iln3 (p := 54) d_218_53 rfl (zX_cV2m (p := 57) ⟨ow_226, by decide⟩ zo_148 d_218_54 ow_218 rs_10_361 kk_226 rfl (s226 hL) rfl rfl rfl rfl (fun v9 M10 => ?_)))))
  try dsimp only
  refine zX_is5 (p := 59) d_218_57 rfl (zX_aln0 (p := 60) d_218_59 rfl (zX_ic (p := 61) d_218_60 ci_0 rfl (zX_iln1 (p := 62) d_218_61 rfl (zX_iln3 (p := 63) d_218_62 rfl (zX_cV3v (p := 66) ⟨ow_217, by decide⟩ zo_148 d_218_63 ow_218 rs_10_364 kk_217 rfl (s217 hL) rfl rfl rfl rfl (fun M11 => ?_))))))
  refine zX_ic (p := 67) d_218_66 ci_0 rfl (zX_is6 (p := 69) d_218_67 rfl ?_)
  refine zX_bind (s218_l69 hL zfu (0 : Int32) M11) ?_
  rintro M16 s17
  try dsimp only
  refine zX_aln0 (p := 112) d_218_111 rfl (zX_gr (p := 115) (b := 149) d_218_112 ow_218 gf_10_7 zo_148 (zr_10_0 hL zo_148) rfl (zX_bi (p := 117) d_218_115 cb_27 rfl (zX_iln1 (p := 118) d_218_117 rfl (zX_add (p := 119) d_218_118 rfl (zX_dup2 (p := 120) d_218_119 rfl rfl rfl (zX_iag (p := 121) d_218_120 za_149 rfl (zX_ic (p := 122) d_218_121 ci_1 rfl ?_)))))))
  refine zX_add (p := 123) d_218_122 rfl (zX_itg (p := 124) d_218_123 za_149 rfl (fun M18 => ?_))
  refine zX_aln0 (p := 125) d_218_124 rfl (zX_gr (p := 128) (b := 149) d_218_125 ow_218 gf_10_7 zo_148 (zr_10_0 hL zo_148) rfl (zX_bi (p := 130) d_218_128 cb_37 rfl (zX_iln1 (p := 131) d_218_130 rfl (zX_add (p := 132) d_218_131 rfl (zX_ic (p := 133) d_218_132 ci_m1 rfl (zX_itg (p := 134) d_218_133 za_149 rfl (fun M19 => ?_)))))))
  refine zX_aln0 (p := 135) d_218_134 rfl (zX_gr (p := 138) (b := 149) d_218_135 ow_218 gf_10_7 zo_148 (zr_10_0 hL zo_148) rfl (zX_ic (p := 139) d_218_138 ci_1 rfl (zX_bi (p := 141) d_218_139 cb_24 rfl (zX_aln0 (p := 142) d_218_141 rfl (zX_gr (p := 145) (b := 149) d_218_142 ow_218 gf_10_7 zo_148 (zr_10_0 hL zo_148) rfl (zX_ic (p := 146) d_218_145 ci_1 rfl (zX_iac (p := 147) d_218_146 za_149 rfl zin_1_2064 zi_1 ?_)))))))
  refine zX_il4 (p := 149) d_218_147 rfl (zX_add (p := 150) d_218_149 rfl (zX_cS2i (p := 153) d_218_150 ow_218 rs_10_317 kk_202 rfl (s202 hL) rfl rfl rfl rfl (fun v20 => ?_)))
  refine zX_itc (p := 154) d_218_153 za_149 rfl zin_1_2064 zi_1 (fun M21 => ?_)
  refine zX_aln0 (p := 155) d_218_154 rfl (zX_gib (p := 158) d_218_155 ow_218 gf_10_342 zo_148 rfl ?_)
  refine zX_zeq (p1 := 173) (p2 := 161) d_218_158 (by decide) rfl ?_ ?_
  · exact zX_retv d_218_173 rt_218
  · refine zX_aln0 (p := 162) d_218_161 rfl (zX_si (p := 165) d_218_162 cs_1000 rfl (zX_cV1m (p := 168) ⟨ow_227, by decide⟩ zo_148 d_218_165 ow_218 rs_10_371 kk_227 rfl (s227 hL) rfl rfl rfl rfl (fun v22 M23 => ?_)))
    try dsimp only
    refine zX_il5 (p := 170) d_218_168 rfl ?_
    refine zX_clt (p1 := 174) (p2 := 173) d_218_170 (by decide) rfl ?_ ?_
    · refine zX_aln0 (p := 175) d_218_174 rfl (zX_gr (p := 178) (b := 149) d_218_175 ow_218 gf_10_7 zo_148 (zr_10_0 hL zo_148) rfl (zX_ic (p := 179) d_218_178 ci_2 rfl (zX_dup2 (p := 180) d_218_179 rfl rfl rfl (zX_iac (p := 181) d_218_180 za_149 rfl zin_2_2064 zi_2 (zX_ic (p := 182) d_218_181 ci_1 rfl (zX_add (p := 183) d_218_182 rfl (zX_itc (p := 184) d_218_183 za_149 rfl zin_2_2064 zi_2 (fun M24 => ?_))))))))
      refine zX_aln0 (p := 185) d_218_184 rfl (zX_ic (p := 186) d_218_185 ci_4 rfl (zX_iln1 (p := 187) d_218_186 rfl (zX_ic (p := 188) d_218_187 ci_0 rfl (zX_cV3v (p := 191) ⟨ow_217, by decide⟩ zo_148 d_218_188 ow_218 rs_10_364 kk_217 rfl (s217 hL) rfl rfl rfl rfl (fun M25 => ?_)))))
      exact zX_retv d_218_191 rt_218
    · exact zX_retv d_218_173 rt_218

theorem s204_l93 {q : ZQ} {d : Nat} (hL : zLay q) {v1 : Int32} {v4 : Int32} : ∀ (n : Nat) (x13 : Int32) (M14 : ZI), zX q (d + 8) 204 93 [.val (.ref 148), .val (.int v1), .val (.int v4), .val (.int x13)] [] M14 (f204_l93 n x13 M14) (zEj q (d + 8) 204 148 (fun (b : ZI) (s : Slot) => [.val (.ref 148), .val (.int v1), .val (.int v4), s]) (fun b => []) (fun b => b)) := by
  intro n
  induction n with
  | zero => intros; exact zX_none
  | succ n ih =>
    intro x13 M14
    rw [f204_l93]
    refine zX_iln3 (p := 94) d_204_93 rfl (zX_aln0 (p := 95) d_204_94 rfl (zX_gr (p := 98) (b := 149) d_204_95 ow_204 gf_10_7 zo_148 (zr_10_0 hL zo_148) rfl (zX_bi (p := 100) d_204_98 cb_48 rfl (zX_iac (p := 101) d_204_100 za_149 rfl zin_48_2064 zi_48 ?_))))
    refine zX_cge (p1 := 148) (p2 := 104) d_204_101 (by decide) rfl ?_ ?_
    · exact zX_leaf (fun _ _ h => h (.val (.int x13)))
    · refine zX_aln0 (p := 105) d_204_104 rfl (zX_gr (p := 108) (b := 149) d_204_105 ow_204 gf_10_7 zo_148 (zr_10_0 hL zo_148) rfl (zX_bi (p := 110) d_204_108 cb_37 rfl (zX_iln3 (p := 111) d_204_110 rfl (zX_add (p := 112) d_204_111 rfl (zX_dup2 (p := 113) d_204_112 rfl rfl rfl (zX_iag (p := 114) d_204_113 za_149 rfl (zX_ic (p := 115) d_204_114 ci_1 rfl ?_)))))))
      refine zX_add (p := 116) d_204_115 rfl (zX_itg (p := 117) d_204_116 za_149 rfl (fun M15 => ?_))
      refine zX_aln0 (p := 118) d_204_117 rfl (zX_gr (p := 121) (b := 149) d_204_118 ow_204 gf_10_7 zo_148 (zr_10_0 hL zo_148) rfl (zX_bi (p := 123) d_204_121 cb_17 rfl (zX_iln3 (p := 124) d_204_123 rfl (zX_add (p := 125) d_204_124 rfl (zX_bi (p := 127) d_204_125 cb_99 rfl (zX_aln0 (p := 128) d_204_127 rfl (zX_gr (p := 131) (b := 149) d_204_128 ow_204 gf_10_7 zo_148 (zr_10_0 hL zo_148) rfl ?_)))))))
      refine zX_bi (p := 133) d_204_131 cb_17 rfl (zX_iln3 (p := 134) d_204_133 rfl (zX_add (p := 135) d_204_134 rfl (zX_iag (p := 136) d_204_135 za_149 rfl (zX_ic (p := 137) d_204_136 ci_1 rfl (zX_add (p := 138) d_204_137 rfl (zX_cS2i (p := 141) d_204_138 ow_204 rs_10_317 kk_202 rfl (s202 hL) rfl rfl rfl rfl (fun v16 => ?_)))))))
      refine zX_itg (p := 142) d_204_141 za_149 rfl (fun M17 => ?_)
      refine zX_ii3 (p := 145) d_204_142 ci_1 rfl (zX_goto (p := 93) d_204_145 (by decide) ?_)
      exact ih (x13 + (1 : Int32)) M17

theorem s204 {q : ZQ} {d : Nat} (hL : zLay q) {M : ZI} : zX q (d + 8) 204 0 [.val (.ref 148), .unset, .unset, .unset] [] M (f204_aYear M) zEm := by
  unfold f204_aYear
  refine zX_aln0 (p := 1) d_204_0 rfl (zX_gr (p := 4) (b := 149) d_204_1 ow_204 gf_10_7 zo_148 (zr_10_0 hL zo_148) rfl (zX_ic (p := 5) d_204_4 ci_1 rfl (zX_iac (p := 6) d_204_5 za_149 rfl zin_1_2064 zi_1 (zX_aln0 (p := 7) d_204_6 rfl (zX_gr (p := 10) (b := 149) d_204_7 ow_204 gf_10_7 zo_148 (zr_10_0 hL zo_148) rfl (zX_bi (p := 12) d_204_10 cb_50 rfl (zX_iac (p := 13) d_204_12 za_149 rfl zin_50_2064 zi_50 ?_)))))))
  refine zX_bind (σ := Unit) (β := Int32) (pj := 21) (lj := fun (b : Int32) (s : Unit) => [.val (.ref 148), .unset, .unset, .unset]) (sj := fun b => [.int b]) (mj := fun b => M) ?_ ?_
  · refine zX_clt (p1 := 20) (p2 := 16) d_204_13 (by decide) rfl ?_ ?_
    · refine zX_ic (p := 21) d_204_20 ci_0 rfl ?_
      exact zX_leaf (fun _ _ h => h ())
    · refine zX_ic (p := 17) d_204_16 ci_1 rfl (zX_goto (p := 21) d_204_17 (by decide) ?_)
      exact zX_leaf (fun _ _ h => h ())
  · rintro v1 _
    try dsimp only
    refine zX_isn1 (p := 22) d_204_21 rfl (zX_iln1 (p := 23) d_204_22 rfl ?_)
    refine zX_bind (σ := Unit) (β := Int32 × ZI) (pj := 34) (lj := fun (b : Int32 × ZI) (s : Unit) => [.val (.ref 148), .val (.int v1), .unset, .unset]) (sj := fun b => [.int b.1]) (mj := fun b => b.2) ?_ ?_
    · refine zX_zeq (p1 := 30) (p2 := 26) d_204_23 (by decide) rfl ?_ ?_
      · refine zX_aln0 (p := 31) d_204_30 rfl (zX_cV0m (p := 34) ⟨ow_205, by decide⟩ zo_148 d_204_31 ow_204 rs_10_374 kk_205 rfl (s205 hL) rfl rfl rfl rfl (fun v2 M3 => ?_))
        try dsimp only
        exact zX_leaf (fun _ _ h => h ())
      · refine zX_ic (p := 27) d_204_26 ci_m1 rfl (zX_goto (p := 34) d_204_27 (by decide) ?_)
        exact zX_leaf (fun _ _ h => h ())
    · rintro ⟨v4, M5⟩ _
      try dsimp only
      refine zX_isn2 (p := 35) d_204_34 rfl (zX_iln1 (p := 36) d_204_35 rfl ?_)
      refine zX_bind (σ := Unit) (β := ZI) (pj := 63) (lj := fun (b : ZI) (s : Unit) => [.val (.ref 148), .val (.int v1), .val (.int v4), .unset]) (sj := fun b => []) (mj := fun b => b) ?_ ?_
      · refine zX_zeq (p1 := 63) (p2 := 39) d_204_36 (by decide) rfl ?_ ?_
        · exact zX_leaf (fun _ _ h => h ())
        · refine zX_aln0 (p := 40) d_204_39 rfl (zX_gr (p := 43) (b := 149) d_204_40 ow_204 gf_10_7 zo_148 (zr_10_0 hL zo_148) rfl (zX_ic (p := 44) d_204_43 ci_1 rfl (zX_ic (p := 45) d_204_44 ci_0 rfl (zX_aln0 (p := 46) d_204_45 rfl (zX_gr (p := 49) (b := 149) d_204_46 ow_204 gf_10_7 zo_148 (zr_10_0 hL zo_148) rfl (zX_ic (p := 50) d_204_49 ci_1 rfl (zX_iac (p := 51) d_204_50 za_149 rfl zin_1_2064 zi_1 ?_)))))))
          refine zX_aln0 (p := 52) d_204_51 rfl (zX_gr (p := 55) (b := 149) d_204_52 ow_204 gf_10_7 zo_148 (zr_10_0 hL zo_148) rfl (zX_bi (p := 57) d_204_55 cb_49 rfl (zX_iac (p := 58) d_204_57 za_149 rfl zin_49_2064 zi_49 (zX_sub (p := 59) d_204_58 rfl (zX_cS2i (p := 62) d_204_59 ow_204 rs_10_320 kk_213 rfl (s213 hL) rfl rfl rfl rfl (fun v6 => ?_))))))
          refine zX_itc (p := 63) d_204_62 za_149 rfl zin_1_2064 zi_1 (fun M7 => ?_)
          exact zX_leaf (fun _ _ h => h ())
      · rintro M8 _
        try dsimp only
        refine zX_iln2 (p := 64) d_204_63 rfl (zX_ic (p := 65) d_204_64 ci_m1 rfl ?_)
        refine zX_bind (σ := Unit) (β := ZI) (pj := 91) (lj := fun (b : ZI) (s : Unit) => [.val (.ref 148), .val (.int v1), .val (.int v4), .unset]) (sj := fun b => []) (mj := fun b => b) ?_ ?_
        · refine zX_cne (p1 := 86) (p2 := 68) d_204_65 (by decide) rfl ?_ ?_
          · refine zX_aln0 (p := 87) d_204_86 rfl (zX_iln2 (p := 88) d_204_87 rfl (zX_cV1v (p := 91) ⟨ow_218, by decide⟩ zo_148 d_204_88 ow_204 rs_10_377 kk_218 rfl (s218 hL) rfl rfl rfl rfl (fun M9 => ?_)))
            exact zX_leaf (fun _ _ h => h ())
          · refine zX_aln0 (p := 69) d_204_68 rfl (zX_iln1 (p := 70) d_204_69 rfl ?_)
            refine zX_bind (σ := Unit) (β := Int32) (pj := 78) (lj := fun (b : Int32) (s : Unit) => [.val (.ref 148), .val (.int v1), .val (.int v4), .unset]) (sj := fun b => [.int b, .ref 148]) (mj := fun b => M8) ?_ ?_
            · refine zX_zeq (p1 := 77) (p2 := 73) d_204_70 (by decide) rfl ?_ ?_
              · refine zX_ic (p := 78) d_204_77 ci_2 rfl ?_
                exact zX_leaf (fun _ _ h => h ())
              · refine zX_ic (p := 74) d_204_73 ci_1 rfl (zX_goto (p := 78) d_204_74 (by decide) ?_)
                exact zX_leaf (fun _ _ h => h ())
            · rintro v10 _
              try dsimp only
              refine zX_ic (p := 79) d_204_78 ci_m1 rfl (zX_ic (p := 80) d_204_79 ci_0 rfl (zX_cV3v (p := 83) ⟨ow_217, by decide⟩ zo_148 d_204_80 ow_204 rs_10_364 kk_217 rfl (s217 hL) rfl rfl rfl rfl (fun M11 => ?_)))
              refine zX_goto (p := 91) d_204_83 (by decide) ?_
              exact zX_leaf (fun _ _ h => h ())
        · rintro M12 _
          try dsimp only
          refine zX_ic (p := 92) d_204_91 ci_0 rfl (zX_isn3 (p := 93) d_204_92 rfl ?_)
          refine zX_bind (s204_l93 hL zfu (0 : Int32) M12) ?_
          rintro M18 s19
          try dsimp only
          refine zX_aln0 (p := 149) d_204_148 rfl (zX_gr (p := 152) (b := 149) d_204_149 ow_204 gf_10_7 zo_148 (zr_10_0 hL zo_148) rfl (zX_ic (p := 153) d_204_152 ci_0 rfl (zX_dup2 (p := 154) d_204_153 rfl rfl rfl (zX_iac (p := 155) d_204_154 za_149 rfl zin_0_2064 zi_0 (zX_ic (p := 156) d_204_155 ci_1 rfl (zX_add (p := 157) d_204_156 rfl (zX_itc (p := 158) d_204_157 za_149 rfl zin_0_2064 zi_0 (fun M20 => ?_))))))))
          refine zX_iln2 (p := 159) d_204_158 rfl ?_
          exact zX_retm d_204_159 rt_204

theorem s203_l35 {q : ZQ} {d : Nat} (hL : zLay q) {a1 : Int32} : ∀ (n : Nat) (x3 : Int32) (x4 : Int32) (M5 : ZI), zX q (d + 9) 203 35 [.val (.ref 148), .val (.int a1), .val (.int x3), .val (.int x4)] [] M5 (f203_l35 a1 n x3 x4 M5) (zEj q (d + 9) 203 66 (fun (b : Int32 × ZI) (s : Slot) => [.val (.ref 148), .val (.int a1), .val (.int b.1), s]) (fun b => []) (fun b => b.2)) := by
  intro n
  induction n with
  | zero => intros; exact zX_none
  | succ n ih =>
    intro x3 x4 M5
    rw [f203_l35]
    refine zX_iln3 (p := 36) d_203_35 rfl (zX_iln1 (p := 37) d_203_36 rfl ?_)
    refine zX_cge (p1 := 66) (p2 := 40) d_203_37 (by decide) rfl ?_ ?_
    · exact zX_leaf (fun _ _ h => h (.val (.int x4)))
    · refine zX_aln0 (p := 41) d_203_40 rfl (zX_cV0v (p := 44) ⟨ow_200, by decide⟩ zo_148 d_203_41 ow_203 rs_10_346 kk_200 rfl (s200 hL) rfl rfl rfl rfl (fun M6 => ?_))
      refine zX_iln2 (p := 45) d_203_44 rfl (zX_aln0 (p := 46) d_203_45 rfl (zX_cV0m (p := 49) ⟨ow_204, by decide⟩ zo_148 d_203_46 ow_203 rs_10_380 kk_204 rfl (s204 hL) rfl rfl rfl rfl (fun v7 M8 => ?_)))
      try dsimp only
      refine zX_ic (p := 50) d_203_49 ci_m1 rfl ?_
      refine zX_ceq (p1 := 57) (p2 := 53) d_203_50 (by decide) rfl ?_ ?_
      · refine zX_ic (p := 58) d_203_57 ci_0 rfl (zX_add (p := 59) d_203_58 rfl (zX_jsn2 (p := 60) d_203_59 rfl (fun x9 => ?_)))
        refine zX_ii3 (p := 63) d_203_60 ci_1 rfl (zX_goto (p := 35) d_203_63 (by decide) ?_)
        exact ih x9 (x4 + (1 : Int32)) M8
      · refine zX_ic (p := 54) d_203_53 ci_1 rfl (zX_goto (p := 58) d_203_54 (by decide) (zX_add (p := 59) d_203_58 rfl (zX_jsn2 (p := 60) d_203_59 rfl (fun x10 => ?_))))
        refine zX_ii3 (p := 63) d_203_60 ci_1 rfl (zX_goto (p := 35) d_203_63 (by decide) ?_)
        exact ih x10 (x4 + (1 : Int32)) M8

theorem s203 {q : ZQ} {d : Nat} (hL : zLay q) {a1 : Int32} {M : ZI} : zX q (d + 9) 203 0 [.val (.ref 148), .val (.int a1), .unset, .unset] [] M (f203_years a1 M) zEm := by
  unfold f203_years
  refine zX_iln1 (p := 1) d_203_0 rfl (zX_ic (p := 2) d_203_1 ci_1 rfl (zX_bi (p := 4) d_203_2 cb_40 rfl (zX_cS3i (p := 7) d_203_4 ow_203 rs_10_53 kk_149 rfl (s149 hL) rfl rfl rfl rfl (fun v1 => ?_))))
  refine zX_zeq (p1 := 24) (p2 := 10) d_203_7 (by decide) rfl ?_ ?_
  · refine zX_ic (p := 25) d_203_24 ci_m1 rfl ?_
    exact zX_retm d_203_25 rt_203
  · refine zX_aln0 (p := 11) d_203_10 rfl (zX_gr (p := 14) (b := 149) d_203_11 ow_203 gf_10_7 zo_148 (zr_10_0 hL zo_148) rfl (zX_ic (p := 15) d_203_14 ci_0 rfl (zX_iac (p := 16) d_203_15 za_149 rfl zin_0_2064 zi_0 (zX_iln1 (p := 17) d_203_16 rfl (zX_add (p := 18) d_203_17 rfl (zX_si (p := 21) d_203_18 cs_999 rfl ?_))))))
    refine zX_cle (p1 := 26) (p2 := 24) d_203_21 (by decide) rfl ?_ ?_
    · refine zX_ic (p := 27) d_203_26 ci_0 rfl (zX_isn2 (p := 28) d_203_27 rfl (zX_aln0 (p := 29) d_203_28 rfl (zX_ic (p := 30) d_203_29 ci_1 rfl (zX_pb (p := 33) d_203_30 ow_203 gf_10_342 (Or.inr rfl) zo_148 rfl (fun M2 => ?_)))))
      refine zX_ic (p := 34) d_203_33 ci_0 rfl (zX_isn3 (p := 35) d_203_34 rfl ?_)
      refine zX_bind (s203_l35 hL zfu (0 : Int32) (0 : Int32) M2) ?_
      rintro ⟨x11, M12⟩ s13
      try dsimp only
      refine zX_iln2 (p := 67) d_203_66 rfl ?_
      exact zX_retm d_203_67 rt_203
    · refine zX_ic (p := 25) d_203_24 ci_m1 rfl ?_
      exact zX_retm d_203_25 rt_203

theorem s228 {q : ZQ} {d : Nat} (hL : zLay q) {a1 : Int32} {a2 : Int32} {a3 : Int32} {M : ZI} : zX q (d + 3) 228 0 [.val (.ref 148), .val (.int a1), .val (.int a2), .val (.int a3), .unset] [] M (f228_plan a1 a2 a3 M) (zEi M) := by
  unfold f228_plan
  refine zX_aln0 (p := 1) d_228_0 rfl (zX_iln1 (p := 2) d_228_1 rfl (zX_cV1i (p := 5) ⟨ow_152, by decide⟩ zo_148 d_228_2 ow_228 rs_10_65 kk_152 rfl (s152 hL) rfl rfl rfl rfl (fun v1 => ?_)))
  refine zX_zeq (p1 := 27) (p2 := 8) d_228_5 (by decide) rfl ?_ ?_
  · refine zX_ic (p := 28) d_228_27 ci_m1 rfl ?_
    exact zX_reti d_228_28 rt_228
  · refine zX_iln2 (p := 9) d_228_8 rfl (zX_ic (p := 10) d_228_9 ci_0 rfl (zX_bi (p := 12) d_228_10 cb_24 rfl (zX_cS3i (p := 15) d_228_12 ow_228 rs_10_53 kk_149 rfl (s149 hL) rfl rfl rfl rfl (fun v2 => ?_))))
    refine zX_zeq (p1 := 27) (p2 := 18) d_228_15 (by decide) rfl ?_ ?_
    · refine zX_ic (p := 28) d_228_27 ci_m1 rfl ?_
      exact zX_reti d_228_28 rt_228
    · refine zX_iln3 (p := 19) d_228_18 rfl (zX_ic (p := 20) d_228_19 ci_0 rfl (zX_ic (p := 21) d_228_20 ci_2 rfl (zX_cS3i (p := 24) d_228_21 ow_228 rs_10_53 kk_149 rfl (s149 hL) rfl rfl rfl rfl (fun v3 => ?_))))
      refine zX_zne (p1 := 29) (p2 := 27) d_228_24 (by decide) rfl ?_ ?_
      · refine zX_aln0 (p := 30) d_228_29 rfl (zX_iln1 (p := 31) d_228_30 rfl (zX_iln2 (p := 32) d_228_31 rfl (zX_cV2i (p := 35) ⟨ow_220, by decide⟩ zo_148 d_228_32 ow_228 rs_10_352 kk_220 rfl (s220 hL) rfl rfl rfl rfl (fun v4 => ?_))))
        refine zX_is4 (p := 37) d_228_35 rfl (zX_iln3 (p := 38) d_228_37 rfl ?_)
        refine zX_zne (p1 := 51) (p2 := 41) d_228_38 (by decide) rfl ?_ ?_
        · refine zX_iln3 (p := 52) d_228_51 rfl (zX_ic (p := 53) d_228_52 ci_1 rfl ?_)
          refine zX_cne (p1 := 66) (p2 := 56) d_228_53 (by decide) rfl ?_ ?_
          · refine zX_il4 (p := 68) d_228_66 rfl ?_
            exact zX_reti d_228_68 rt_228
          · refine zX_aln0 (p := 57) d_228_56 rfl (zX_il4 (p := 59) d_228_57 rfl (zX_ic (p := 60) d_228_59 ci_1 rfl (zX_cV2i (p := 63) ⟨ow_221, by decide⟩ zo_148 d_228_60 ow_228 rs_10_355 kk_221 rfl (s221 hL) rfl rfl rfl rfl (fun v5 => ?_))))
            refine zX_goto (p := 68) d_228_63 (by decide) ?_
            exact zX_reti d_228_68 rt_228
        · refine zX_aln0 (p := 42) d_228_41 rfl (zX_il4 (p := 44) d_228_42 rfl (zX_ic (p := 45) d_228_44 ci_2 rfl (zX_cV2i (p := 48) ⟨ow_221, by decide⟩ zo_148 d_228_45 ow_228 rs_10_355 kk_221 rfl (s221 hL) rfl rfl rfl rfl (fun v6 => ?_))))
          refine zX_goto (p := 68) d_228_48 (by decide) ?_
          exact zX_reti d_228_68 rt_228
      · refine zX_ic (p := 28) d_228_27 ci_m1 rfl ?_
        exact zX_reti d_228_28 rt_228

theorem s229 {q : ZQ} {d : Nat} (hL : zLay q) {a1 : Int32} {a2 : Int32} {M : ZI} : zX q (d + 6) 229 0 [.val (.ref 148), .val (.int a1), .val (.int a2)] [] M (f229_of a1 a2 M) zEm := by
  unfold f229_of
  refine zX_aln0 (p := 1) d_229_0 rfl (zX_iln1 (p := 2) d_229_1 rfl (zX_cV1i (p := 5) ⟨ow_152, by decide⟩ zo_148 d_229_2 ow_229 rs_10_65 kk_152 rfl (s152 hL) rfl rfl rfl rfl (fun v1 => ?_)))
  refine zX_zne (p1 := 11) (p2 := 8) d_229_5 (by decide) rfl ?_ ?_
  · refine zX_iln2 (p := 12) d_229_11 rfl ?_
    refine zX_ite (fun hs12_0 => ?_) (fun hs12_0 => ?_)
    · refine zX_tsh (p := 64) (n := 0) d_229_12 hs12_0 (by decide) (by decide) (by decide) rfl (by decide) ?_
      refine zX_aln0 (p := 65) d_229_64 rfl (zX_gr (p := 68) (b := 149) d_229_65 ow_229 gf_10_7 zo_148 (zr_10_0 hL zo_148) rfl (zX_bi (p := 70) d_229_68 cb_17 rfl (zX_iln1 (p := 71) d_229_70 rfl (zX_add (p := 72) d_229_71 rfl (zX_iag (p := 73) d_229_72 za_149 rfl ?_)))))
      exact zX_retm d_229_73 rt_229
    refine zX_ite (fun hs12_1 => ?_) (fun hs12_1 => ?_)
    · refine zX_tsh (p := 74) (n := 1) d_229_12 hs12_1 (by decide) (by decide) (by decide) rfl (by decide) ?_
      refine zX_aln0 (p := 75) d_229_74 rfl (zX_gr (p := 78) (b := 149) d_229_75 ow_229 gf_10_7 zo_148 (zr_10_0 hL zo_148) rfl (zX_bi (p := 80) d_229_78 cb_60 rfl (zX_iln1 (p := 81) d_229_80 rfl (zX_add (p := 82) d_229_81 rfl (zX_iag (p := 83) d_229_82 za_149 rfl ?_)))))
      exact zX_retm d_229_83 rt_229
    refine zX_ite (fun hs12_2 => ?_) (fun hs12_2 => ?_)
    · refine zX_tsh (p := 84) (n := 2) d_229_12 hs12_2 (by decide) (by decide) (by decide) rfl (by decide) ?_
      refine zX_aln0 (p := 85) d_229_84 rfl (zX_gr (p := 88) (b := 149) d_229_85 ow_229 gf_10_7 zo_148 (zr_10_0 hL zo_148) rfl (zX_bi (p := 90) d_229_88 cb_70 rfl (zX_iln1 (p := 91) d_229_90 rfl (zX_add (p := 92) d_229_91 rfl (zX_iag (p := 93) d_229_92 za_149 rfl ?_)))))
      exact zX_retm d_229_93 rt_229
    refine zX_ite (fun hs12_3 => ?_) (fun hs12_3 => ?_)
    · refine zX_tsh (p := 94) (n := 3) d_229_12 hs12_3 (by decide) (by decide) (by decide) rfl (by decide) ?_
      refine zX_aln0 (p := 95) d_229_94 rfl (zX_gr (p := 98) (b := 149) d_229_95 ow_229 gf_10_7 zo_148 (zr_10_0 hL zo_148) rfl (zX_bi (p := 100) d_229_98 cb_27 rfl (zX_iln1 (p := 101) d_229_100 rfl (zX_add (p := 102) d_229_101 rfl (zX_iag (p := 103) d_229_102 za_149 rfl ?_)))))
      exact zX_retm d_229_103 rt_229
    refine zX_ite (fun hs12_4 => ?_) (fun hs12_4 => ?_)
    · refine zX_tsh (p := 104) (n := 4) d_229_12 hs12_4 (by decide) (by decide) (by decide) rfl (by decide) ?_
      refine zX_aln0 (p := 105) d_229_104 rfl (zX_gr (p := 108) (b := 149) d_229_105 ow_229 gf_10_7 zo_148 (zr_10_0 hL zo_148) rfl (zX_bi (p := 110) d_229_108 cb_37 rfl (zX_iln1 (p := 111) d_229_110 rfl (zX_add (p := 112) d_229_111 rfl (zX_iag (p := 113) d_229_112 za_149 rfl ?_)))))
      exact zX_retm d_229_113 rt_229
    refine zX_ite (fun hs12_5 => ?_) (fun hs12_5 => ?_)
    · refine zX_tsh (p := 114) (n := 5) d_229_12 hs12_5 (by decide) (by decide) (by decide) rfl (by decide) ?_
      refine zX_aln0 (p := 115) d_229_114 rfl (zX_gr (p := 118) (b := 149) d_229_115 ow_229 gf_10_7 zo_148 (zr_10_0 hL zo_148) rfl (zX_bi (p := 120) d_229_118 cb_80 rfl (zX_iln1 (p := 121) d_229_120 rfl (zX_add (p := 122) d_229_121 rfl (zX_iag (p := 123) d_229_122 za_149 rfl ?_)))))
      exact zX_retm d_229_123 rt_229
    refine zX_ite (fun hs12_6 => ?_) (fun hs12_6 => ?_)
    · refine zX_tsh (p := 124) (n := 6) d_229_12 hs12_6 (by decide) (by decide) (by decide) rfl (by decide) ?_
      refine zX_aln0 (p := 125) d_229_124 rfl (zX_gr (p := 128) (b := 149) d_229_125 ow_229 gf_10_7 zo_148 (zr_10_0 hL zo_148) rfl (zX_bi (p := 130) d_229_128 cb_7 rfl (zX_iln1 (p := 131) d_229_130 rfl (zX_add (p := 132) d_229_131 rfl (zX_iag (p := 133) d_229_132 za_149 rfl ?_)))))
      exact zX_retm d_229_133 rt_229
    refine zX_ite (fun hs12_7 => ?_) (fun hs12_7 => ?_)
    · refine zX_tsh (p := 134) (n := 7) d_229_12 hs12_7 (by decide) (by decide) (by decide) rfl (by decide) ?_
      refine zX_aln0 (p := 135) d_229_134 rfl (zX_iln1 (p := 136) d_229_135 rfl (zX_cV1m (p := 139) ⟨ow_207, by decide⟩ zo_148 d_229_136 ow_229 rs_10_327 kk_207 rfl (s207 hL) rfl rfl rfl rfl (fun v2 M3 => ?_)))
      try dsimp only
      exact zX_retm d_229_139 rt_229
    refine zX_ite (fun hs12_8 => ?_) (fun hs12_8 => ?_)
    · refine zX_tsh (p := 140) (n := 8) d_229_12 hs12_8 (by decide) (by decide) (by decide) rfl (by decide) ?_
      refine zX_aln0 (p := 141) d_229_140 rfl (zX_iln1 (p := 142) d_229_141 rfl (zX_cV1m (p := 145) ⟨ow_206, by decide⟩ zo_148 d_229_142 ow_229 rs_10_330 kk_206 rfl (s206 hL) rfl rfl rfl rfl (fun v4 M5 => ?_)))
      try dsimp only
      exact zX_retm d_229_145 rt_229
    have hz12 : (a2 : Int32).toInt < 0 ∨ 8 < (a2 : Int32).toInt := by
      have := zne_i (n := 0) (by decide) hs12_0
      have := zne_i (n := 1) (by decide) hs12_1
      have := zne_i (n := 2) (by decide) hs12_2
      have := zne_i (n := 3) (by decide) hs12_3
      have := zne_i (n := 4) (by decide) hs12_4
      have := zne_i (n := 5) (by decide) hs12_5
      have := zne_i (n := 6) (by decide) hs12_6
      have := zne_i (n := 7) (by decide) hs12_7
      have := zne_i (n := 8) (by decide) hs12_8
      omega
    refine zX_tsd (p := 146) d_229_12 hz12 (by decide) ?_
    refine zX_bi (p := 148) d_229_146 cb_m2 rfl ?_
    exact zX_retm d_229_148 rt_229
  · refine zX_bi (p := 10) d_229_8 cb_m2 rfl ?_
    exact zX_retm d_229_10 rt_229

theorem s230 {q : ZQ} {d : Nat} (hL : zLay q) {a1 : Int32} {a2 : Int32} {a3 : Int32} {M : ZI} : zX q (d + 5) 230 0 [.val (.ref 148), .val (.int a1), .val (.int a2), .val (.int a3)] [] M (f230_after a1 a2 a3 M) zEm := by
  unfold f230_after
  refine zX_aln0 (p := 1) d_230_0 rfl (zX_iln1 (p := 2) d_230_1 rfl (zX_cV1i (p := 5) ⟨ow_152, by decide⟩ zo_148 d_230_2 ow_230 rs_10_65 kk_152 rfl (s152 hL) rfl rfl rfl rfl (fun v1 => ?_)))
  refine zX_zeq (p1 := 18) (p2 := 8) d_230_5 (by decide) rfl ?_ ?_
  · refine zX_ic (p := 19) d_230_18 ci_m1 rfl ?_
    exact zX_retm d_230_19 rt_230
  · refine zX_iln2 (p := 9) d_230_8 rfl (zX_ic (p := 10) d_230_9 ci_0 rfl (zX_bi (p := 12) d_230_10 cb_24 rfl (zX_cS3i (p := 15) d_230_12 ow_230 rs_10_53 kk_149 rfl (s149 hL) rfl rfl rfl rfl (fun v2 => ?_))))
    refine zX_zne (p1 := 20) (p2 := 18) d_230_15 (by decide) rfl ?_ ?_
    · refine zX_iln3 (p := 21) d_230_20 rfl ?_
      refine zX_zeq (p1 := 33) (p2 := 24) d_230_21 (by decide) rfl ?_ ?_
      · refine zX_aln0 (p := 34) d_230_33 rfl (zX_iln1 (p := 35) d_230_34 rfl (zX_iln2 (p := 36) d_230_35 rfl (zX_cV2m (p := 39) ⟨ow_225, by decide⟩ zo_148 d_230_36 ow_230 rs_10_358 kk_225 rfl (s225 hL) rfl rfl rfl rfl (fun v3 M4 => ?_))))
        try dsimp only
        exact zX_retm d_230_39 rt_230
      · refine zX_aln0 (p := 25) d_230_24 rfl (zX_iln1 (p := 26) d_230_25 rfl (zX_iln2 (p := 27) d_230_26 rfl (zX_cV2m (p := 30) ⟨ow_226, by decide⟩ zo_148 d_230_27 ow_230 rs_10_361 kk_226 rfl (s226 hL) rfl rfl rfl rfl (fun v5 M6 => ?_))))
        try dsimp only
        refine zX_goto (p := 39) d_230_30 (by decide) ?_
        exact zX_retm d_230_39 rt_230
    · refine zX_ic (p := 19) d_230_18 ci_m1 rfl ?_
      exact zX_retm d_230_19 rt_230

theorem s231 {q : ZQ} {d : Nat} (hL : zLay q) {a1 : Int32} {a2 : Int32} {M : ZI} : zX q (d + 1) 231 0 [.val (.ref 148), .val (.int a1), .val (.int a2)] [] M (f231_work a1 a2 M) (zEi M) := by
  unfold f231_work
  refine zX_iln1 (p := 1) d_231_0 rfl (zX_ic (p := 2) d_231_1 ci_0 rfl (zX_aln0 (p := 3) d_231_2 rfl (zX_gr (p := 6) (b := 149) d_231_3 ow_231 gf_10_7 zo_148 (zr_10_0 hL zo_148) rfl (zX_bi (p := 8) d_231_6 cb_52 rfl (zX_iac (p := 9) d_231_8 za_149 rfl zin_52_2064 zi_52 (zX_ic (p := 10) d_231_9 ci_1 rfl (zX_sub (p := 11) d_231_10 rfl ?_)))))))
  refine zX_cS3i (p := 14) d_231_11 ow_231 rs_10_53 kk_149 rfl (s149 hL) rfl rfl rfl rfl (fun v1 => ?_)
  refine zX_zeq (p1 := 27) (p2 := 17) d_231_14 (by decide) rfl ?_ ?_
  · refine zX_bi (p := 29) d_231_27 cb_m2 rfl ?_
    exact zX_reti d_231_29 rt_231
  · refine zX_iln2 (p := 18) d_231_17 rfl (zX_ic (p := 19) d_231_18 ci_0 rfl (zX_bi (p := 21) d_231_19 cb_6 rfl (zX_cS3i (p := 24) d_231_21 ow_231 rs_10_53 kk_149 rfl (s149 hL) rfl rfl rfl rfl (fun v2 => ?_))))
    refine zX_zne (p1 := 30) (p2 := 27) d_231_24 (by decide) rfl ?_ ?_
    · refine zX_iln2 (p := 31) d_231_30 rfl (zX_bi (p := 33) d_231_31 cb_6 rfl ?_)
      refine zX_cge (p1 := 45) (p2 := 36) d_231_33 (by decide) rfl ?_ ?_
      · refine zX_aln0 (p := 46) d_231_45 rfl (zX_iln1 (p := 47) d_231_46 rfl (zX_cV1i (p := 50) ⟨ow_224, by decide⟩ zo_148 d_231_47 ow_231 rs_10_383 kk_224 rfl (s224 hL) rfl rfl rfl rfl (fun v3 => ?_)))
        refine zX_zeq (p1 := 57) (p2 := 53) d_231_50 (by decide) rfl ?_ ?_
        · refine zX_ic (p := 58) d_231_57 ci_0 rfl ?_
          exact zX_reti d_231_58 rt_231
        · refine zX_ic (p := 54) d_231_53 ci_1 rfl (zX_goto (p := 58) d_231_54 (by decide) ?_)
          exact zX_reti d_231_58 rt_231
      · refine zX_aln0 (p := 37) d_231_36 rfl (zX_iln1 (p := 38) d_231_37 rfl (zX_iln2 (p := 39) d_231_38 rfl (zX_cV2i (p := 42) ⟨ow_222, by decide⟩ zo_148 d_231_39 ow_231 rs_10_368 kk_222 rfl (s222 hL) rfl rfl rfl rfl (fun v4 => ?_))))
        refine zX_goto (p := 58) d_231_42 (by decide) ?_
        exact zX_reti d_231_58 rt_231
    · refine zX_bi (p := 29) d_231_27 cb_m2 rfl ?_
      exact zX_reti d_231_29 rt_231

theorem s232 {q : ZQ} {d : Nat} (hL : zLay q) {a1 : Int32} {a2 : Int32} {M : ZI} : zX q (d + 1) 232 0 [.val (.ref 148), .val (.int a1), .val (.int a2)] [] M (f232_book a1 a2 M) (zEi M) := by
  unfold f232_book
  refine zX_iln1 (p := 1) d_232_0 rfl (zX_ic (p := 2) d_232_1 ci_0 rfl (zX_aln0 (p := 3) d_232_2 rfl (zX_gr (p := 6) (b := 149) d_232_3 ow_232 gf_10_7 zo_148 (zr_10_0 hL zo_148) rfl (zX_ic (p := 7) d_232_6 ci_5 rfl (zX_iac (p := 8) d_232_7 za_149 rfl zin_5_2064 zi_5 (zX_ic (p := 9) d_232_8 ci_1 rfl (zX_sub (p := 10) d_232_9 rfl ?_)))))))
  refine zX_cS3i (p := 13) d_232_10 ow_232 rs_10_53 kk_149 rfl (s149 hL) rfl rfl rfl rfl (fun v1 => ?_)
  refine zX_zeq (p1 := 42) (p2 := 16) d_232_13 (by decide) rfl ?_ ?_
  · refine zX_bi (p := 44) d_232_42 cb_m2 rfl ?_
    exact zX_reti d_232_44 rt_232
  · refine zX_iln2 (p := 17) d_232_16 rfl (zX_ic (p := 18) d_232_17 ci_0 rfl (zX_ic (p := 19) d_232_18 ci_3 rfl (zX_cS3i (p := 22) d_232_19 ow_232 rs_10_53 kk_149 rfl (s149 hL) rfl rfl rfl rfl (fun v2 => ?_))))
    refine zX_zeq (p1 := 42) (p2 := 25) d_232_22 (by decide) rfl ?_ ?_
    · refine zX_bi (p := 44) d_232_42 cb_m2 rfl ?_
      exact zX_reti d_232_44 rt_232
    · refine zX_aln0 (p := 26) d_232_25 rfl (zX_gr (p := 29) (b := 149) d_232_26 ow_232 gf_10_7 zo_148 (zr_10_0 hL zo_148) rfl (zX_si (p := 32) d_232_29 cs_578 rfl (zX_ic (p := 33) d_232_32 ci_4 rfl (zX_iln1 (p := 34) d_232_33 rfl (zX_mul (p := 35) d_232_34 rfl (zX_add (p := 36) d_232_35 rfl (zX_iln2 (p := 37) d_232_36 rfl ?_)))))))
      refine zX_add (p := 38) d_232_37 rfl (zX_iag (p := 39) d_232_38 za_149 rfl (zX_goto (p := 44) d_232_39 (by decide) ?_))
      exact zX_reti d_232_44 rt_232

theorem s234 {q : ZQ} {d : Nat} (hL : zLay q) {M : ZI} : zX q d 234 0 [.val (.ref 148)] [] M (f234_all M) (zEi M) := by
  unfold f234_all
  refine zX_ic (p := 1) d_234_0 ci_1 rfl (zX_aln0 (p := 2) d_234_1 rfl (zX_gr (p := 5) (b := 149) d_234_2 ow_234 gf_10_7 zo_148 (zr_10_0 hL zo_148) rfl (zX_bi (p := 7) d_234_5 cb_48 rfl (zX_iac (p := 8) d_234_7 za_149 rfl zin_48_2064 zi_48 (zX_shl (p := 9) d_234_8 rfl (zX_ic (p := 10) d_234_9 ci_1 rfl (zX_sub (p := 11) d_234_10 rfl ?_)))))))
  exact zX_reti d_234_11 rt_234

theorem s233 {q : ZQ} {d : Nat} (hL : zLay q) {a1 : Int32} {M : ZI} : zX q (d + 2) 233 0 [.val (.ref 148), .val (.int a1)] [] M (f233_does a1 M) zEm := by
  unfold f233_does
  refine zX_aln0 (p := 1) d_233_0 rfl (zX_iln1 (p := 2) d_233_1 rfl (zX_aln0 (p := 3) d_233_2 rfl (zX_cV0i (p := 6) ⟨ow_234, by decide⟩ zo_148 d_233_3 ow_233 rs_10_389 kk_234 rfl (s234 hL) rfl rfl rfl rfl (fun v1 => ?_))))
  refine zX_and (p := 7) d_233_6 rfl (zX_cV1m (p := 10) ⟨ow_215, by decide⟩ zo_148 d_233_7 ow_233 rs_10_336 kk_215 rfl (s215 hL) rfl rfl rfl rfl (fun v2 M3 => ?_))
  try dsimp only
  exact zX_retmg d_233_10 rt_233

theorem s235_l24 {q : ZQ} {d : Nat} (hL : zLay q) {a1 : Int32} {a2 : Int32} : ∀ (n : Nat) (x3 : Int32) (M4 : ZI), zX q (d + 9) 235 24 [.val (.ref 148), .val (.int a1), .val (.int a2), .val (.int x3), .unset, .unset, .unset] [] M4 (f235_l24 n x3 M4) (zEj q (d + 9) 235 48 (fun (b : ZI) (s : Slot) => [.val (.ref 148), .val (.int a1), .val (.int a2), s, .unset, .unset, .unset]) (fun b => []) (fun b => b)) := by
  intro n
  induction n with
  | zero => intros; exact zX_none
  | succ n ih =>
    intro x3 M4
    rw [f235_l24]
    refine zX_iln3 (p := 25) d_235_24 rfl (zX_bi (p := 27) d_235_25 cb_48 rfl ?_)
    refine zX_cge (p1 := 48) (p2 := 30) d_235_27 (by decide) rfl ?_ ?_
    · exact zX_leaf (fun _ _ h => h (.val (.int x3)))
    · refine zX_aln0 (p := 31) d_235_30 rfl (zX_gr (p := 34) (b := 152) d_235_31 ow_235 gf_10_19 zo_148 (zr_10_3 hL zo_148) rfl (zX_iln3 (p := 35) d_235_34 rfl (zX_aln0 (p := 36) d_235_35 rfl (zX_gr (p := 39) (b := 149) d_235_36 ow_235 gf_10_7 zo_148 (zr_10_0 hL zo_148) rfl (zX_iln3 (p := 40) d_235_39 rfl (zX_iag (p := 41) d_235_40 za_149 rfl (zX_itg (p := 42) d_235_41 za_152 rfl (fun M5 => ?_))))))))
      refine zX_ii3 (p := 45) d_235_42 ci_1 rfl (zX_goto (p := 24) d_235_45 (by decide) ?_)
      exact ih (x3 + (1 : Int32)) M5

theorem s235_l61 {q : ZQ} {d : Nat} (hL : zLay q) {a1 : Int32} {a2 : Int32} : ∀ (n : Nat) (x9 : Int32) (x10 : Int32) (x11 : Int32) (M12 : ZI), zX q (d + 9) 235 61 [.val (.ref 148), .val (.int a1), .val (.int a2), .val (.int x9), .val (.int x10), .val (.int x11), .unset] [] M12 (f235_l61 a1 n x9 x10 x11 M12) (zEj q (d + 9) 235 103 (fun (b : Int32 × Int32 × ZI) (s : Slot) => [.val (.ref 148), .val (.int a1), .val (.int a2), .val (.int b.1), .val (.int b.2.1), s, .unset]) (fun b => []) (fun b => b.2.2)) := by
  intro n
  induction n with
  | zero => intros; exact zX_none
  | succ n ih =>
    intro x9 x10 x11 M12
    rw [f235_l61]
    refine zX_il5 (p := 63) d_235_61 rfl (zX_iln1 (p := 64) d_235_63 rfl ?_)
    refine zX_cge (p1 := 103) (p2 := 67) d_235_64 (by decide) rfl ?_ ?_
    · exact zX_leaf (fun _ _ h => h (.val (.int x11)))
    · refine zX_iln3 (p := 68) d_235_67 rfl (zX_aln0 (p := 69) d_235_68 rfl (zX_gr (p := 72) (b := 149) d_235_69 ow_235 gf_10_7 zo_148 (zr_10_0 hL zo_148) rfl (zX_ic (p := 73) d_235_72 ci_1 rfl (zX_iac (p := 74) d_235_73 za_149 rfl zin_1_2064 zi_1 (zX_aln0 (p := 75) d_235_74 rfl (zX_gr (p := 78) (b := 149) d_235_75 ow_235 gf_10_7 zo_148 (zr_10_0 hL zo_148) rfl (zX_bi (p := 80) d_235_78 cb_50 rfl ?_)))))))
      refine zX_iac (p := 81) d_235_80 za_149 rfl zin_50_2064 zi_50 ?_
      refine zX_bind (σ := Unit) (β := Int32) (pj := 89) (lj := fun (b : Int32) (s : Unit) => [.val (.ref 148), .val (.int a1), .val (.int a2), .val (.int x9), .val (.int x10), .val (.int x11), .unset]) (sj := fun b => [.int b, .int x9]) (mj := fun b => M12) ?_ ?_
      · refine zX_clt (p1 := 88) (p2 := 84) d_235_81 (by decide) rfl ?_ ?_
        · refine zX_ic (p := 89) d_235_88 ci_0 rfl ?_
          exact zX_leaf (fun _ _ h => h ())
        · refine zX_ic (p := 85) d_235_84 ci_1 rfl (zX_goto (p := 89) d_235_85 (by decide) ?_)
          exact zX_leaf (fun _ _ h => h ())
      · rintro v13 _
        try dsimp only
        refine zX_add (p := 90) d_235_89 rfl (zX_jsn3 (p := 91) d_235_90 rfl (fun x14 => ?_))
        refine zX_aln0 (p := 92) d_235_91 rfl (zX_cV0m (p := 95) ⟨ow_204, by decide⟩ zo_148 d_235_92 ow_235 rs_10_380 kk_204 rfl (s204 hL) rfl rfl rfl rfl (fun v15 M16 => ?_))
        try dsimp only
        refine zX_is4 (p := 97) d_235_95 rfl (zX_ii5 (p := 100) d_235_97 ci_1 rfl (zX_goto (p := 61) d_235_100 (by decide) ?_))
        exact ih x14 v15 (x11 + (1 : Int32)) M16

theorem s235_l121 {q : ZQ} {d : Nat} (hL : zLay q) {a1 : Int32} {a2 : Int32} {x17 : Int32} {x18 : Int32} {x21 : Int32} : ∀ (n : Nat) (x22 : Int32) (M23 : ZI), zX q (d + 9) 235 121 [.val (.ref 148), .val (.int a1), .val (.int a2), .val (.int x17), .val (.int x18), .val (.int x21), .val (.int x22)] [] M23 (f235_l121 n x22 M23) (zEj q (d + 9) 235 148 (fun (b : ZI) (s : Slot) => [.val (.ref 148), .val (.int a1), .val (.int a2), .val (.int x17), .val (.int x18), .val (.int x21), s]) (fun b => []) (fun b => b)) := by
  intro n
  induction n with
  | zero => intros; exact zX_none
  | succ n ih =>
    intro x22 M23
    rw [f235_l121]
    refine zX_il6 (p := 123) d_235_121 rfl (zX_bi (p := 125) d_235_123 cb_48 rfl ?_)
    refine zX_cge (p1 := 148) (p2 := 128) d_235_125 (by decide) rfl ?_ ?_
    · exact zX_leaf (fun _ _ h => h (.val (.int x22)))
    · refine zX_aln0 (p := 129) d_235_128 rfl (zX_gr (p := 132) (b := 149) d_235_129 ow_235 gf_10_7 zo_148 (zr_10_0 hL zo_148) rfl (zX_il6 (p := 134) d_235_132 rfl (zX_aln0 (p := 135) d_235_134 rfl (zX_gr (p := 138) (b := 152) d_235_135 ow_235 gf_10_19 zo_148 (zr_10_3 hL zo_148) rfl (zX_il6 (p := 140) d_235_138 rfl (zX_iag (p := 141) d_235_140 za_152 rfl (zX_itg (p := 142) d_235_141 za_149 rfl (fun M24 => ?_))))))))
      refine zX_ii6 (p := 145) d_235_142 ci_1 rfl (zX_goto (p := 121) d_235_145 (by decide) ?_)
      exact ih (x22 + (1 : Int32)) M24

theorem s235 {q : ZQ} {d : Nat} (hL : zLay q) {a1 : Int32} {a2 : Int32} {M : ZI} : zX q (d + 9) 235 0 [.val (.ref 148), .val (.int a1), .val (.int a2), .unset, .unset, .unset, .unset] [] M (f235_given a1 a2 M) zEm := by
  unfold f235_given
  refine zX_iln1 (p := 1) d_235_0 rfl (zX_ic (p := 2) d_235_1 ci_1 rfl (zX_bi (p := 4) d_235_2 cb_40 rfl (zX_cS3i (p := 7) d_235_4 ow_235 rs_10_53 kk_149 rfl (s149 hL) rfl rfl rfl rfl (fun v1 => ?_))))
  refine zX_zeq (p1 := 19) (p2 := 10) d_235_7 (by decide) rfl ?_ ?_
  · refine zX_bi (p := 21) d_235_19 cb_m2 rfl ?_
    exact zX_retm d_235_21 rt_235
  · refine zX_iln2 (p := 11) d_235_10 rfl (zX_ic (p := 12) d_235_11 ci_0 rfl (zX_ic (p := 13) d_235_12 ci_2 rfl (zX_cS3i (p := 16) d_235_13 ow_235 rs_10_53 kk_149 rfl (s149 hL) rfl rfl rfl rfl (fun v2 => ?_))))
    refine zX_zne (p1 := 22) (p2 := 19) d_235_16 (by decide) rfl ?_ ?_
    · refine zX_ic (p := 23) d_235_22 ci_0 rfl (zX_isn3 (p := 24) d_235_23 rfl ?_)
      refine zX_bind (s235_l24 hL zfu (0 : Int32) M) ?_
      rintro M6 s7
      try dsimp only
      refine zX_aln0 (p := 49) d_235_48 rfl (zX_ic (p := 50) d_235_49 ci_0 rfl (zX_pb (p := 53) d_235_50 ow_235 gf_10_342 (Or.inl rfl) zo_148 rfl (fun M8 => ?_)))
      refine zX_ic (p := 54) d_235_53 ci_0 rfl (zX_isn3 (p := 55) d_235_54 rfl (zX_ic (p := 56) d_235_55 ci_m1 rfl (zX_is4 (p := 58) d_235_56 rfl (zX_ic (p := 59) d_235_58 ci_0 rfl (zX_is5 (p := 61) d_235_59 rfl ?_)))))
      refine zX_bind (s235_l61 hL zfu (0 : Int32) (-1 : Int32) (0 : Int32) M8) ?_
      rintro ⟨x17, x18, M19⟩ s20
      try dsimp only
      refine zX_aln0 (p := 104) d_235_103 rfl (zX_gr (p := 107) (b := 149) d_235_104 ow_235 gf_10_7 zo_148 (zr_10_0 hL zo_148) rfl (zX_ic (p := 108) d_235_107 ci_3 rfl (zX_iac (p := 109) d_235_108 za_149 rfl zin_3_2064 zi_3 (zX_aln0 (p := 110) d_235_109 rfl (zX_gr (p := 113) (b := 152) d_235_110 ow_235 gf_10_19 zo_148 (zr_10_3 hL zo_148) rfl (zX_ic (p := 114) d_235_113 ci_3 rfl (zX_iac (p := 115) d_235_114 za_152 rfl zin_3_48 zi_3 ?_)))))))
      refine zX_sub (p := 116) d_235_115 rfl (zX_js5 (p := 118) d_235_116 rfl (fun x21 => ?_))
      refine zX_ic (p := 119) d_235_118 ci_0 rfl (zX_is6 (p := 121) d_235_119 rfl ?_)
      refine zX_bind (s235_l121 hL zfu (0 : Int32) M19) ?_
      rintro M25 s26
      try dsimp only
      refine zX_iln2 (p := 149) d_235_148 rfl ?_
      refine zX_zne (p1 := 157) (p2 := 152) d_235_149 (by decide) rfl ?_ ?_
      · refine zX_iln2 (p := 158) d_235_157 rfl (zX_ic (p := 159) d_235_158 ci_1 rfl ?_)
        refine zX_cne (p1 := 166) (p2 := 162) d_235_159 (by decide) rfl ?_ ?_
        · refine zX_il5 (p := 168) d_235_166 rfl ?_
          exact zX_retm d_235_168 rt_235
        · refine zX_iln3 (p := 163) d_235_162 rfl (zX_goto (p := 168) d_235_163 (by decide) ?_)
          exact zX_retm d_235_168 rt_235
      · refine zX_il4 (p := 154) d_235_152 rfl (zX_goto (p := 168) d_235_154 (by decide) ?_)
        exact zX_retm d_235_168 rt_235
    · refine zX_bi (p := 21) d_235_19 cb_m2 rfl ?_
      exact zX_retm d_235_21 rt_235

theorem s236_l12 {q : ZQ} {d : Nat} (hL : zLay q) {a1 : Int32} : ∀ (n : Nat) (x2 : Int32) (M3 : ZI), zX q (d + 9) 236 12 [.val (.ref 148), .val (.int a1), .val (.int x2), .unset] [] M3 (f236_l12 n x2 M3) (zEj q (d + 9) 236 36 (fun (b : ZI) (s : Slot) => [.val (.ref 148), .val (.int a1), s, .unset]) (fun b => []) (fun b => b)) := by
  intro n
  induction n with
  | zero => intros; exact zX_none
  | succ n ih =>
    intro x2 M3
    rw [f236_l12]
    refine zX_iln2 (p := 13) d_236_12 rfl (zX_bi (p := 15) d_236_13 cb_48 rfl ?_)
    refine zX_cge (p1 := 36) (p2 := 18) d_236_15 (by decide) rfl ?_ ?_
    · exact zX_leaf (fun _ _ h => h (.val (.int x2)))
    · refine zX_aln0 (p := 19) d_236_18 rfl (zX_gr (p := 22) (b := 152) d_236_19 ow_236 gf_10_19 zo_148 (zr_10_3 hL zo_148) rfl (zX_iln2 (p := 23) d_236_22 rfl (zX_aln0 (p := 24) d_236_23 rfl (zX_gr (p := 27) (b := 149) d_236_24 ow_236 gf_10_7 zo_148 (zr_10_0 hL zo_148) rfl (zX_iln2 (p := 28) d_236_27 rfl (zX_iag (p := 29) d_236_28 za_149 rfl (zX_itg (p := 30) d_236_29 za_152 rfl (fun M4 => ?_))))))))
      refine zX_ii2 (p := 33) d_236_30 ci_1 rfl (zX_goto (p := 12) d_236_33 (by decide) ?_)
      exact ih (x2 + (1 : Int32)) M4

theorem s236_l45 {q : ZQ} {d : Nat} (hL : zLay q) {a1 : Int32} : ∀ (n : Nat) (x8 : Int32) (x9 : Int32) (M10 : ZI), zX q (d + 9) 236 45 [.val (.ref 148), .val (.int a1), .val (.int x8), .val (.int x9)] [] M10 (f236_l45 a1 n x8 x9 M10) (zEj q (d + 9) 236 76 (fun (b : Int32 × ZI) (s : Slot) => [.val (.ref 148), .val (.int a1), .val (.int b.1), s]) (fun b => []) (fun b => b.2)) := by
  intro n
  induction n with
  | zero => intros; exact zX_none
  | succ n ih =>
    intro x8 x9 M10
    rw [f236_l45]
    refine zX_iln3 (p := 46) d_236_45 rfl (zX_bi (p := 48) d_236_46 cb_40 rfl ?_)
    refine zX_cge (p1 := 76) (p2 := 51) d_236_48 (by decide) rfl ?_ ?_
    · exact zX_leaf (fun _ _ h => h (.val (.int x9)))
    · refine zX_iln2 (p := 52) d_236_51 rfl (zX_ic (p := 53) d_236_52 ci_m1 rfl ?_)
      refine zX_cne (p1 := 76) (p2 := 56) d_236_53 (by decide) rfl ?_ ?_
      · exact zX_leaf (fun _ _ h => h (.val (.int x9)))
      · refine zX_aln0 (p := 57) d_236_56 rfl (zX_cV0m (p := 60) ⟨ow_204, by decide⟩ zo_148 d_236_57 ow_236 rs_10_380 kk_204 rfl (s204 hL) rfl rfl rfl rfl (fun v11 M12 => ?_))
        try dsimp only
        refine zX_iln1 (p := 61) d_236_60 rfl ?_
        refine zX_cne (p1 := 68) (p2 := 64) d_236_61 (by decide) rfl ?_ ?_
        · refine zX_ic (p := 69) d_236_68 ci_m1 rfl (zX_isn2 (p := 70) d_236_69 rfl (zX_ii3 (p := 73) d_236_70 ci_1 rfl (zX_goto (p := 45) d_236_73 (by decide) ?_)))
          exact ih (-1 : Int32) (x9 + (1 : Int32)) M12
        · refine zX_iln3 (p := 65) d_236_64 rfl (zX_goto (p := 69) d_236_65 (by decide) (zX_isn2 (p := 70) d_236_69 rfl (zX_ii3 (p := 73) d_236_70 ci_1 rfl (zX_goto (p := 45) d_236_73 (by decide) ?_))))
          exact ih x9 (x9 + (1 : Int32)) M12

theorem s236_l78 {q : ZQ} {d : Nat} (hL : zLay q) {a1 : Int32} {x13 : Int32} : ∀ (n : Nat) (x16 : Int32) (M17 : ZI), zX q (d + 9) 236 78 [.val (.ref 148), .val (.int a1), .val (.int x13), .val (.int x16)] [] M17 (f236_l78 n x16 M17) (zEj q (d + 9) 236 102 (fun (b : ZI) (s : Slot) => [.val (.ref 148), .val (.int a1), .val (.int x13), s]) (fun b => []) (fun b => b)) := by
  intro n
  induction n with
  | zero => intros; exact zX_none
  | succ n ih =>
    intro x16 M17
    rw [f236_l78]
    refine zX_iln3 (p := 79) d_236_78 rfl (zX_bi (p := 81) d_236_79 cb_48 rfl ?_)
    refine zX_cge (p1 := 102) (p2 := 84) d_236_81 (by decide) rfl ?_ ?_
    · exact zX_leaf (fun _ _ h => h (.val (.int x16)))
    · refine zX_aln0 (p := 85) d_236_84 rfl (zX_gr (p := 88) (b := 149) d_236_85 ow_236 gf_10_7 zo_148 (zr_10_0 hL zo_148) rfl (zX_iln3 (p := 89) d_236_88 rfl (zX_aln0 (p := 90) d_236_89 rfl (zX_gr (p := 93) (b := 152) d_236_90 ow_236 gf_10_19 zo_148 (zr_10_3 hL zo_148) rfl (zX_iln3 (p := 94) d_236_93 rfl (zX_iag (p := 95) d_236_94 za_152 rfl (zX_itg (p := 96) d_236_95 za_149 rfl (fun M18 => ?_))))))))
      refine zX_ii3 (p := 99) d_236_96 ci_1 rfl (zX_goto (p := 78) d_236_99 (by decide) ?_)
      exact ih (x16 + (1 : Int32)) M18

theorem s236 {q : ZQ} {d : Nat} (hL : zLay q) {a1 : Int32} {M : ZI} : zX q (d + 9) 236 0 [.val (.ref 148), .val (.int a1), .unset, .unset] [] M (f236_soonest a1 M) zEm := by
  unfold f236_soonest
  refine zX_aln0 (p := 1) d_236_0 rfl (zX_iln1 (p := 2) d_236_1 rfl (zX_cV1i (p := 5) ⟨ow_152, by decide⟩ zo_148 d_236_2 ow_236 rs_10_65 kk_152 rfl (s152 hL) rfl rfl rfl rfl (fun v1 => ?_)))
  refine zX_zne (p1 := 10) (p2 := 8) d_236_5 (by decide) rfl ?_ ?_
  · refine zX_ic (p := 11) d_236_10 ci_0 rfl (zX_isn2 (p := 12) d_236_11 rfl ?_)
    refine zX_bind (s236_l12 hL zfu (0 : Int32) M) ?_
    rintro M5 s6
    try dsimp only
    refine zX_aln0 (p := 37) d_236_36 rfl (zX_ic (p := 38) d_236_37 ci_0 rfl (zX_pb (p := 41) d_236_38 ow_236 gf_10_342 (Or.inl rfl) zo_148 rfl (fun M7 => ?_)))
    refine zX_ic (p := 42) d_236_41 ci_m1 rfl (zX_isn2 (p := 43) d_236_42 rfl (zX_ic (p := 44) d_236_43 ci_0 rfl (zX_isn3 (p := 45) d_236_44 rfl ?_)))
    refine zX_bind (s236_l45 hL zfu (-1 : Int32) (0 : Int32) M7) ?_
    rintro ⟨x13, M14⟩ s15
    try dsimp only
    refine zX_ic (p := 77) d_236_76 ci_0 rfl (zX_isn3 (p := 78) d_236_77 rfl ?_)
    refine zX_bind (s236_l78 hL zfu (0 : Int32) M14) ?_
    rintro M19 s20
    try dsimp only
    refine zX_iln2 (p := 103) d_236_102 rfl ?_
    exact zX_retm d_236_103 rt_236
  · refine zX_ic (p := 9) d_236_8 ci_m1 rfl ?_
    exact zX_retm d_236_9 rt_236

theorem s238 {q : ZQ} {d : Nat} (hL : zLay q) {a1 : Int32} {a2 : Int32} {M : ZI} : zX q d 238 0 [.val (.ref 148), .val (.int a1), .val (.int a2), .unset] [] M (f238_isNeedier a1 a2 M) (zEi M) := by
  unfold f238_isNeedier
  refine zX_iln2 (p := 1) d_238_0 rfl (zX_ic (p := 2) d_238_1 ci_m1 rfl ?_)
  refine zX_cne (p1 := 7) (p2 := 5) d_238_2 (by decide) rfl ?_ ?_
  · refine zX_aln0 (p := 8) d_238_7 rfl (zX_gr (p := 11) (b := 149) d_238_8 ow_238 gf_10_7 zo_148 (zr_10_0 hL zo_148) rfl (zX_bi (p := 13) d_238_11 cb_60 rfl (zX_iln1 (p := 14) d_238_13 rfl (zX_add (p := 15) d_238_14 rfl (zX_iag (p := 16) d_238_15 za_149 rfl (zX_aln0 (p := 17) d_238_16 rfl (zX_gr (p := 20) (b := 149) d_238_17 ow_238 gf_10_7 zo_148 (zr_10_0 hL zo_148) rfl ?_)))))))
    refine zX_bi (p := 22) d_238_20 cb_60 rfl (zX_iln2 (p := 23) d_238_22 rfl (zX_add (p := 24) d_238_23 rfl (zX_iag (p := 25) d_238_24 za_149 rfl (zX_sub (p := 26) d_238_25 rfl (zX_jsn3 (p := 27) d_238_26 rfl (fun x1 => ?_))))))
    refine zX_iln3 (p := 28) d_238_27 rfl ?_
    refine zX_zgt (p1 := 56) (p2 := 31) d_238_28 (by decide) rfl ?_ ?_
    · refine zX_ic (p := 57) d_238_56 ci_1 rfl (zX_goto (p := 61) d_238_57 (by decide) ?_)
      exact zX_retib d_238_61 rt_238 (Or.inr rfl)
    · refine zX_iln3 (p := 32) d_238_31 rfl ?_
      refine zX_zne (p1 := 60) (p2 := 35) d_238_32 (by decide) rfl ?_ ?_
      · refine zX_ic (p := 61) d_238_60 ci_0 rfl ?_
        exact zX_retib d_238_61 rt_238 (Or.inl rfl)
      · refine zX_aln0 (p := 36) d_238_35 rfl (zX_gr (p := 39) (b := 149) d_238_36 ow_238 gf_10_7 zo_148 (zr_10_0 hL zo_148) rfl (zX_bi (p := 41) d_238_39 cb_17 rfl (zX_iln1 (p := 42) d_238_41 rfl (zX_add (p := 43) d_238_42 rfl (zX_iag (p := 44) d_238_43 za_149 rfl (zX_aln0 (p := 45) d_238_44 rfl (zX_gr (p := 48) (b := 149) d_238_45 ow_238 gf_10_7 zo_148 (zr_10_0 hL zo_148) rfl ?_)))))))
        refine zX_bi (p := 50) d_238_48 cb_17 rfl (zX_iln2 (p := 51) d_238_50 rfl (zX_add (p := 52) d_238_51 rfl (zX_iag (p := 53) d_238_52 za_149 rfl ?_)))
        refine zX_cle (p1 := 60) (p2 := 56) d_238_53 (by decide) rfl ?_ ?_
        · refine zX_ic (p := 61) d_238_60 ci_0 rfl ?_
          exact zX_retib d_238_61 rt_238 (Or.inl rfl)
        · refine zX_ic (p := 57) d_238_56 ci_1 rfl (zX_goto (p := 61) d_238_57 (by decide) ?_)
          exact zX_retib d_238_61 rt_238 (Or.inr rfl)
  · refine zX_ic (p := 6) d_238_5 ci_1 rfl ?_
    exact zX_retib d_238_6 rt_238 (Or.inr rfl)

theorem s237_l4 {q : ZQ} {d : Nat} (hL : zLay q) {M : ZI} : ∀ (n : Nat) (x1 : Int32) (x2 : Int32), zX q (d + 1) 237 4 [.val (.ref 148), .val (.int x1), .val (.int x2)] [] M (f237_l4 M n x1 x2) (zEj q (d + 1) 237 44 (fun (b : Int32) (s : Slot) => [.val (.ref 148), .val (.int b), s]) (fun b => []) (fun b => M)) := by
  intro n
  induction n with
  | zero => intros; exact zX_none
  | succ n ih =>
    intro x1 x2
    rw [f237_l4]
    refine zX_iln2 (p := 5) d_237_4 rfl (zX_aln0 (p := 6) d_237_5 rfl (zX_gr (p := 9) (b := 149) d_237_6 ow_237 gf_10_7 zo_148 (zr_10_0 hL zo_148) rfl (zX_bi (p := 11) d_237_9 cb_48 rfl (zX_iac (p := 12) d_237_11 za_149 rfl zin_48_2064 zi_48 ?_))))
    refine zX_cge (p1 := 44) (p2 := 15) d_237_12 (by decide) rfl ?_ ?_
    · exact zX_leaf (fun _ _ h => h (.val (.int x2)))
    · refine zX_aln0 (p := 16) d_237_15 rfl (zX_gr (p := 19) (b := 149) d_237_16 ow_237 gf_10_7 zo_148 (zr_10_0 hL zo_148) rfl (zX_bi (p := 21) d_237_19 cb_27 rfl (zX_iln2 (p := 22) d_237_21 rfl (zX_add (p := 23) d_237_22 rfl (zX_iag (p := 24) d_237_23 za_149 rfl ?_)))))
      refine zX_zne (p1 := 38) (p2 := 27) d_237_24 (by decide) rfl ?_ ?_
      · refine zX_ii2 (p := 41) d_237_38 ci_1 rfl (zX_goto (p := 4) d_237_41 (by decide) ?_)
        exact ih x1 (x2 + (1 : Int32))
      · refine zX_aln0 (p := 28) d_237_27 rfl (zX_iln2 (p := 29) d_237_28 rfl (zX_iln1 (p := 30) d_237_29 rfl (zX_cV2i (p := 33) ⟨ow_238, by decide⟩ zo_148 d_237_30 ow_237 rs_10_392 kk_238 rfl (s238 hL) rfl rfl rfl rfl (fun v3 => ?_))))
        refine zX_zeq (p1 := 38) (p2 := 36) d_237_33 (by decide) rfl ?_ ?_
        · refine zX_ii2 (p := 41) d_237_38 ci_1 rfl (zX_goto (p := 4) d_237_41 (by decide) ?_)
          exact ih x1 (x2 + (1 : Int32))
        · refine zX_iln2 (p := 37) d_237_36 rfl (zX_isn1 (p := 38) d_237_37 rfl (zX_ii2 (p := 41) d_237_38 ci_1 rfl (zX_goto (p := 4) d_237_41 (by decide) ?_)))
          exact ih x2 (x2 + (1 : Int32))

theorem s237 {q : ZQ} {d : Nat} (hL : zLay q) {M : ZI} : zX q (d + 1) 237 0 [.val (.ref 148), .unset, .unset] [] M (f237_next M) (zEi M) := by
  unfold f237_next
  refine zX_ic (p := 1) d_237_0 ci_m1 rfl (zX_isn1 (p := 2) d_237_1 rfl (zX_ic (p := 3) d_237_2 ci_0 rfl (zX_isn2 (p := 4) d_237_3 rfl ?_)))
  refine zX_bind (s237_l4 hL zfu (-1 : Int32) (0 : Int32)) ?_
  rintro x4 s5
  try dsimp only
  refine zX_iln1 (p := 45) d_237_44 rfl ?_
  exact zX_reti d_237_45 rt_237

theorem s239_l20 {q : ZQ} {d : Nat} (hL : zLay q) {a1 : Int32} {M : ZI} : ∀ (n : Nat) (x2 : Int32) (x3 : Int32) (x4 : Int32), zX q (d + 1) 239 20 [.val (.ref 148), .val (.int a1), .val (.int x2), .val (.int x3), .val (.int x4)] [] M (f239_l20 M n x2 x3 x4) (zEj q (d + 1) 239 112 (fun (b : Int32 × Int32) (s : Slot) => [.val (.ref 148), .val (.int a1), .val (.int b.1), .val (.int b.2), s]) (fun b => []) (fun b => M)) := by
  intro n
  induction n with
  | zero => intros; exact zX_none
  | succ n ih =>
    intro x2 x3 x4
    rw [f239_l20]
    refine zX_il4 (p := 22) d_239_20 rfl (zX_aln0 (p := 23) d_239_22 rfl (zX_gr (p := 26) (b := 149) d_239_23 ow_239 gf_10_7 zo_148 (zr_10_0 hL zo_148) rfl (zX_bi (p := 28) d_239_26 cb_48 rfl (zX_iac (p := 29) d_239_28 za_149 rfl zin_48_2064 zi_48 ?_))))
    refine zX_cge (p1 := 112) (p2 := 32) d_239_29 (by decide) rfl ?_ ?_
    · exact zX_leaf (fun _ _ h => h (.val (.int x4)))
    · refine zX_aln0 (p := 33) d_239_32 rfl (zX_gr (p := 36) (b := 149) d_239_33 ow_239 gf_10_7 zo_148 (zr_10_0 hL zo_148) rfl (zX_bi (p := 38) d_239_36 cb_27 rfl (zX_il4 (p := 40) d_239_38 rfl (zX_add (p := 41) d_239_40 rfl (zX_iag (p := 42) d_239_41 za_149 rfl ?_)))))
      refine zX_zle (p1 := 48) (p2 := 45) d_239_42 (by decide) rfl ?_ ?_
      · refine zX_iln2 (p := 49) d_239_48 rfl (zX_aln0 (p := 50) d_239_49 rfl (zX_gr (p := 53) (b := 149) d_239_50 ow_239 gf_10_7 zo_148 (zr_10_0 hL zo_148) rfl (zX_bi (p := 55) d_239_53 cb_60 rfl (zX_il4 (p := 57) d_239_55 rfl (zX_add (p := 58) d_239_57 rfl (zX_iag (p := 59) d_239_58 za_149 rfl (zX_add (p := 60) d_239_59 rfl ?_)))))))
        refine zX_jsn2 (p := 61) d_239_60 rfl (fun x5 => ?_)
        refine zX_aln0 (p := 62) d_239_61 rfl (zX_gr (p := 65) (b := 149) d_239_62 ow_239 gf_10_7 zo_148 (zr_10_0 hL zo_148) rfl (zX_bi (p := 67) d_239_65 cb_70 rfl (zX_il4 (p := 69) d_239_67 rfl (zX_add (p := 70) d_239_69 rfl (zX_iag (p := 71) d_239_70 za_149 rfl (zX_aln0 (p := 72) d_239_71 rfl (zX_gr (p := 75) (b := 149) d_239_72 ow_239 gf_10_7 zo_148 (zr_10_0 hL zo_148) rfl ?_)))))))
        refine zX_ic (p := 76) d_239_75 ci_0 rfl (zX_iac (p := 77) d_239_76 za_149 rfl zin_0_2064 zi_0 ?_)
        refine zX_cge (p1 := 84) (p2 := 80) d_239_77 (by decide) rfl ?_ ?_
        · refine zX_iln3 (p := 85) d_239_84 rfl (zX_aln0 (p := 86) d_239_85 rfl (zX_gr (p := 89) (b := 149) d_239_86 ow_239 gf_10_7 zo_148 (zr_10_0 hL zo_148) rfl (zX_bi (p := 91) d_239_89 cb_70 rfl (zX_il4 (p := 93) d_239_91 rfl (zX_add (p := 94) d_239_93 rfl (zX_iag (p := 95) d_239_94 za_149 rfl (zX_aln0 (p := 96) d_239_95 rfl ?_)))))))
          refine zX_gr (p := 99) (b := 149) d_239_96 ow_239 gf_10_7 zo_148 (zr_10_0 hL zo_148) rfl (zX_ic (p := 100) d_239_99 ci_0 rfl (zX_iac (p := 101) d_239_100 za_149 rfl zin_0_2064 zi_0 (zX_sub (p := 102) d_239_101 rfl (zX_cS2i (p := 105) d_239_102 ow_239 rs_10_317 kk_202 rfl (s202 hL) rfl rfl rfl rfl (fun v6 => ?_)))))
          refine zX_isn3 (p := 106) d_239_105 rfl (zX_ii4 (p := 109) d_239_106 ci_1 rfl (zX_goto (p := 20) d_239_109 (by decide) ?_))
          exact ih x5 v6 (x4 + (1 : Int32))
        · refine zX_iln3 (p := 81) d_239_80 rfl (zX_goto (p := 105) d_239_81 (by decide) (zX_isn3 (p := 106) d_239_105 rfl (zX_ii4 (p := 109) d_239_106 ci_1 rfl (zX_goto (p := 20) d_239_109 (by decide) ?_))))
          exact ih x5 x3 (x4 + (1 : Int32))
      · refine zX_goto (p := 106) d_239_45 (by decide) (zX_ii4 (p := 109) d_239_106 ci_1 rfl (zX_goto (p := 20) d_239_109 (by decide) ?_))
        exact ih x2 x3 (x4 + (1 : Int32))

theorem s239 {q : ZQ} {d : Nat} (hL : zLay q) {a1 : Int32} {M : ZI} : zX q (d + 1) 239 0 [.val (.ref 148), .val (.int a1), .unset, .unset, .unset] [] M (f239_due a1 M) (zEi M) := by
  unfold f239_due
  refine zX_iln1 (p := 1) d_239_0 rfl (zX_ic (p := 2) d_239_1 ci_0 rfl (zX_ic (p := 3) d_239_2 ci_1 rfl (zX_cS3i (p := 6) d_239_3 ow_239 rs_10_53 kk_149 rfl (s149 hL) rfl rfl rfl rfl (fun v1 => ?_))))
  refine zX_zne (p1 := 11) (p2 := 9) d_239_6 (by decide) rfl ?_ ?_
  · refine zX_ic (p := 12) d_239_11 ci_0 rfl (zX_isn2 (p := 13) d_239_12 rfl (zX_ldcw (p := 16) d_239_13 ow_239 kn_10_395 rfl (zX_isn3 (p := 17) d_239_16 rfl (zX_ic (p := 18) d_239_17 ci_0 rfl (zX_is4 (p := 20) d_239_18 rfl ?_)))))
    refine zX_bind (s239_l20 hL zfu (0 : Int32) (100000 : Int32) (0 : Int32)) ?_
    rintro ⟨x7, x8⟩ s9
    try dsimp only
    refine zX_iln1 (p := 113) d_239_112 rfl ?_
    refine zX_zne (p1 := 120) (p2 := 116) d_239_113 (by decide) rfl ?_ ?_
    · refine zX_iln3 (p := 121) d_239_120 rfl (zX_ldcw (p := 124) d_239_121 ow_239 kn_10_395 rfl ?_)
      refine zX_cne (p1 := 131) (p2 := 127) d_239_124 (by decide) rfl ?_ ?_
      · refine zX_iln3 (p := 132) d_239_131 rfl ?_
        exact zX_reti d_239_132 rt_239
      · refine zX_ic (p := 128) d_239_127 ci_m1 rfl (zX_goto (p := 132) d_239_128 (by decide) ?_)
        exact zX_reti d_239_132 rt_239
    · refine zX_iln2 (p := 117) d_239_116 rfl (zX_goto (p := 132) d_239_117 (by decide) ?_)
      exact zX_reti d_239_132 rt_239
  · refine zX_ic (p := 10) d_239_9 ci_m1 rfl ?_
    exact zX_reti d_239_10 rt_239

theorem s240_l23 {q : ZQ} {d : Nat} (hL : zLay q) {a1 : Int32} {M : ZI} : ∀ (n : Nat) (x2 : Int32) (x3 : Int32) (x4 : Int32) (x5 : Int32), zX q (d + 1) 240 23 [.val (.ref 148), .val (.int a1), .val (.int x2), .val (.int x3), .val (.int x4), .val (.int x5)] [] M (f240_l23 M n x2 x3 x4 x5) (zEj q (d + 1) 240 117 (fun (b : Int32 × Int32 × Int32) (s : Slot) => [.val (.ref 148), .val (.int a1), .val (.int b.1), .val (.int b.2.1), .val (.int b.2.2), s]) (fun b => []) (fun b => M)) := by
  intro n
  induction n with
  | zero => intros; exact zX_none
  | succ n ih =>
    intro x2 x3 x4 x5
    rw [f240_l23]
    refine zX_il5 (p := 25) d_240_23 rfl (zX_aln0 (p := 26) d_240_25 rfl (zX_gr (p := 29) (b := 149) d_240_26 ow_240 gf_10_7 zo_148 (zr_10_0 hL zo_148) rfl (zX_bi (p := 31) d_240_29 cb_48 rfl (zX_iac (p := 32) d_240_31 za_149 rfl zin_48_2064 zi_48 ?_))))
    refine zX_cge (p1 := 117) (p2 := 35) d_240_32 (by decide) rfl ?_ ?_
    · exact zX_leaf (fun _ _ h => h (.val (.int x5)))
    · refine zX_iln2 (p := 36) d_240_35 rfl (zX_aln0 (p := 37) d_240_36 rfl (zX_gr (p := 40) (b := 149) d_240_37 ow_240 gf_10_7 zo_148 (zr_10_0 hL zo_148) rfl (zX_bi (p := 42) d_240_40 cb_27 rfl (zX_il5 (p := 44) d_240_42 rfl (zX_add (p := 45) d_240_44 rfl (zX_iag (p := 46) d_240_45 za_149 rfl (zX_cS2i (p := 49) d_240_46 ow_240 rs_10_317 kk_202 rfl (s202 hL) rfl rfl rfl rfl (fun v6 => ?_))))))))
      refine zX_isn2 (p := 50) d_240_49 rfl (zX_iln3 (p := 51) d_240_50 rfl (zX_aln0 (p := 52) d_240_51 rfl (zX_gr (p := 55) (b := 149) d_240_52 ow_240 gf_10_7 zo_148 (zr_10_0 hL zo_148) rfl (zX_bi (p := 57) d_240_55 cb_27 rfl (zX_il5 (p := 59) d_240_57 rfl (zX_add (p := 60) d_240_59 rfl (zX_iag (p := 61) d_240_60 za_149 rfl ?_)))))))
      refine zX_cS2i (p := 64) d_240_61 ow_240 rs_10_320 kk_213 rfl (s213 hL) rfl rfl rfl rfl (fun v7 => ?_)
      refine zX_isn3 (p := 65) d_240_64 rfl (zX_aln0 (p := 66) d_240_65 rfl (zX_gr (p := 69) (b := 149) d_240_66 ow_240 gf_10_7 zo_148 (zr_10_0 hL zo_148) rfl (zX_bi (p := 71) d_240_69 cb_27 rfl (zX_il5 (p := 73) d_240_71 rfl (zX_add (p := 74) d_240_73 rfl (zX_iag (p := 75) d_240_74 za_149 rfl ?_))))))
      refine zX_zle (p1 := 111) (p2 := 78) d_240_75 (by decide) rfl ?_ ?_
      · refine zX_ii5 (p := 114) d_240_111 ci_1 rfl (zX_goto (p := 23) d_240_114 (by decide) ?_)
        exact ih v6 v7 x4 (x5 + (1 : Int32))
      · refine zX_il4 (p := 80) d_240_78 rfl (zX_ic (p := 81) d_240_80 ci_m1 rfl ?_)
        refine zX_ceq (p1 := 107) (p2 := 84) d_240_81 (by decide) rfl ?_ ?_
        · refine zX_il5 (p := 109) d_240_107 rfl (zX_is4 (p := 111) d_240_109 rfl (zX_ii5 (p := 114) d_240_111 ci_1 rfl (zX_goto (p := 23) d_240_114 (by decide) ?_)))
          exact ih v6 v7 x5 (x5 + (1 : Int32))
        · refine zX_aln0 (p := 85) d_240_84 rfl (zX_gr (p := 88) (b := 149) d_240_85 ow_240 gf_10_7 zo_148 (zr_10_0 hL zo_148) rfl (zX_bi (p := 90) d_240_88 cb_37 rfl (zX_il5 (p := 92) d_240_90 rfl (zX_add (p := 93) d_240_92 rfl (zX_iag (p := 94) d_240_93 za_149 rfl (zX_aln0 (p := 95) d_240_94 rfl (zX_gr (p := 98) (b := 149) d_240_95 ow_240 gf_10_7 zo_148 (zr_10_0 hL zo_148) rfl ?_)))))))
          refine zX_bi (p := 100) d_240_98 cb_37 rfl (zX_il4 (p := 102) d_240_100 rfl (zX_add (p := 103) d_240_102 rfl (zX_iag (p := 104) d_240_103 za_149 rfl ?_)))
          refine zX_cge (p1 := 111) (p2 := 107) d_240_104 (by decide) rfl ?_ ?_
          · refine zX_ii5 (p := 114) d_240_111 ci_1 rfl (zX_goto (p := 23) d_240_114 (by decide) ?_)
            exact ih v6 v7 x4 (x5 + (1 : Int32))
          · refine zX_il5 (p := 109) d_240_107 rfl (zX_is4 (p := 111) d_240_109 rfl (zX_ii5 (p := 114) d_240_111 ci_1 rfl (zX_goto (p := 23) d_240_114 (by decide) ?_)))
            exact ih v6 v7 x5 (x5 + (1 : Int32))

theorem s240 {q : ZQ} {d : Nat} (hL : zLay q) {a1 : Int32} {M : ZI} : zX q (d + 1) 240 0 [.val (.ref 148), .val (.int a1), .unset, .unset, .unset, .unset] [] M (f240_spread a1 M) (zEi M) := by
  unfold f240_spread
  refine zX_iln1 (p := 1) d_240_0 rfl (zX_ic (p := 2) d_240_1 ci_0 rfl (zX_ic (p := 3) d_240_2 ci_1 rfl (zX_cS3i (p := 6) d_240_3 ow_240 rs_10_53 kk_149 rfl (s149 hL) rfl rfl rfl rfl (fun v1 => ?_))))
  refine zX_zne (p1 := 11) (p2 := 9) d_240_6 (by decide) rfl ?_ ?_
  · refine zX_ldcw (p := 14) d_240_11 ow_240 kn_10_395 rfl (zX_isn2 (p := 15) d_240_14 rfl (zX_ic (p := 16) d_240_15 ci_0 rfl (zX_isn3 (p := 17) d_240_16 rfl (zX_ic (p := 18) d_240_17 ci_m1 rfl (zX_is4 (p := 20) d_240_18 rfl (zX_ic (p := 21) d_240_20 ci_0 rfl (zX_is5 (p := 23) d_240_21 rfl ?_)))))))
    refine zX_bind (s240_l23 hL zfu (100000 : Int32) (0 : Int32) (-1 : Int32) (0 : Int32)) ?_
    rintro ⟨x8, x9, x10⟩ s11
    try dsimp only
    refine zX_iln1 (p := 118) d_240_117 rfl (zX_ic (p := 119) d_240_118 ci_1 rfl ?_)
    refine zX_cne (p1 := 127) (p2 := 122) d_240_119 (by decide) rfl ?_ ?_
    · refine zX_aln0 (p := 128) d_240_127 rfl (zX_gr (p := 131) (b := 149) d_240_128 ow_240 gf_10_7 zo_148 (zr_10_0 hL zo_148) rfl (zX_bi (p := 133) d_240_131 cb_48 rfl (zX_iac (p := 134) d_240_133 za_149 rfl zin_48_2064 zi_48 ?_)))
      refine zX_zne (p1 := 141) (p2 := 137) d_240_134 (by decide) rfl ?_ ?_
      · refine zX_iln3 (p := 142) d_240_141 rfl (zX_iln2 (p := 143) d_240_142 rfl (zX_sub (p := 144) d_240_143 rfl ?_))
        exact zX_reti d_240_144 rt_240
      · refine zX_ic (p := 138) d_240_137 ci_0 rfl (zX_goto (p := 144) d_240_138 (by decide) ?_)
        exact zX_reti d_240_144 rt_240
    · refine zX_il4 (p := 124) d_240_122 rfl (zX_goto (p := 144) d_240_124 (by decide) ?_)
      exact zX_reti d_240_144 rt_240
  · refine zX_ic (p := 10) d_240_9 ci_m1 rfl ?_
    exact zX_reti d_240_10 rt_240

theorem s241_l25 {q : ZQ} {d : Nat} (hL : zLay q) {a1 : Int32} {x2 : Int32} : ∀ (n : Nat) (x3 : Int32) (x4 : Int32) (M6 : ZI) (s5 : Slot), zX q (d + 8) 241 25 [.val (.ref 148), .val (.int a1), .val (.int x2), .val (.int x3), .val (.int x4), s5] [] M6 (f241_l25 a1 n x3 x4 M6) (zEj q (d + 8) 241 86 (fun (b : Int32 × ZI) (s : Slot × Slot) => [.val (.ref 148), .val (.int a1), .val (.int x2), .val (.int b.1), s.1, s.2]) (fun b => []) (fun b => b.2)) := by
  intro n
  induction n with
  | zero => intros; exact zX_none
  | succ n ih =>
    intro x3 x4 M6 s5
    rw [f241_l25]
    refine zX_il4 (p := 27) d_241_25 rfl (zX_aln0 (p := 28) d_241_27 rfl (zX_gr (p := 31) (b := 149) d_241_28 ow_241 gf_10_7 zo_148 (zr_10_0 hL zo_148) rfl (zX_bi (p := 33) d_241_31 cb_48 rfl (zX_iac (p := 34) d_241_33 za_149 rfl zin_48_2064 zi_48 ?_))))
    refine zX_cge (p1 := 86) (p2 := 37) d_241_34 (by decide) rfl ?_ ?_
    · exact zX_leaf (fun _ _ h => h (.val (.int x4), s5))
    · refine zX_il4 (p := 39) d_241_37 rfl (zX_iln1 (p := 40) d_241_39 rfl ?_)
      refine zX_cne (p1 := 46) (p2 := 43) d_241_40 (by decide) rfl ?_ ?_
      · refine zX_aln0 (p := 47) d_241_46 rfl (zX_gr (p := 50) (b := 149) d_241_47 ow_241 gf_10_7 zo_148 (zr_10_0 hL zo_148) rfl (zX_bi (p := 52) d_241_50 cb_80 rfl (zX_iln1 (p := 53) d_241_52 rfl (zX_add (p := 54) d_241_53 rfl (zX_il4 (p := 56) d_241_54 rfl (zX_itg (p := 57) d_241_56 za_149 rfl (fun M7 => ?_)))))))
        refine zX_aln0 (p := 58) d_241_57 rfl (zX_cV0m (p := 61) ⟨ow_205, by decide⟩ zo_148 d_241_58 ow_241 rs_10_374 kk_205 rfl (s205 hL) rfl rfl rfl rfl (fun v8 M9 => ?_))
        try dsimp only
        refine zX_is5 (p := 63) d_241_61 rfl (zX_iln3 (p := 64) d_241_63 rfl (zX_il5 (p := 66) d_241_64 rfl (zX_ic (p := 67) d_241_66 ci_m1 rfl ?_)))
        refine zX_cne (p1 := 74) (p2 := 70) d_241_67 (by decide) rfl ?_ ?_
        · refine zX_ic (p := 75) d_241_74 ci_1 rfl (zX_il5 (p := 77) d_241_75 rfl (zX_shl (p := 78) d_241_77 rfl (zX_or (p := 79) d_241_78 rfl (zX_jsn3 (p := 80) d_241_79 rfl (fun x10 => ?_)))))
          refine zX_ii4 (p := 83) d_241_80 ci_1 rfl (zX_goto (p := 25) d_241_83 (by decide) ?_)
          exact ih x10 (x4 + (1 : Int32)) M9 (.val (.int v8))
        · refine zX_ic (p := 71) d_241_70 ci_0 rfl (zX_goto (p := 78) d_241_71 (by decide) (zX_or (p := 79) d_241_78 rfl (zX_jsn3 (p := 80) d_241_79 rfl (fun x11 => ?_))))
          refine zX_ii4 (p := 83) d_241_80 ci_1 rfl (zX_goto (p := 25) d_241_83 (by decide) ?_)
          exact ih x11 (x4 + (1 : Int32)) M9 (.val (.int v8))
      · refine zX_goto (p := 80) d_241_43 (by decide) (zX_ii4 (p := 83) d_241_80 ci_1 rfl (zX_goto (p := 25) d_241_83 (by decide) ?_))
        exact ih x3 (x4 + (1 : Int32)) M6 (s5)

theorem s241 {q : ZQ} {d : Nat} (hL : zLay q) {a1 : Int32} {M : ZI} : zX q (d + 8) 241 0 [.val (.ref 148), .val (.int a1), .unset, .unset, .unset, .unset] [] M (f241_can a1 M) zEm := by
  unfold f241_can
  refine zX_aln0 (p := 1) d_241_0 rfl (zX_iln1 (p := 2) d_241_1 rfl (zX_cV1i (p := 5) ⟨ow_152, by decide⟩ zo_148 d_241_2 ow_241 rs_10_65 kk_152 rfl (s152 hL) rfl rfl rfl rfl (fun v1 => ?_)))
  refine zX_zne (p1 := 10) (p2 := 8) d_241_5 (by decide) rfl ?_ ?_
  · refine zX_aln0 (p := 11) d_241_10 rfl (zX_gr (p := 14) (b := 149) d_241_11 ow_241 gf_10_7 zo_148 (zr_10_0 hL zo_148) rfl (zX_bi (p := 16) d_241_14 cb_80 rfl (zX_iln1 (p := 17) d_241_16 rfl (zX_add (p := 18) d_241_17 rfl (zX_iag (p := 19) d_241_18 za_149 rfl (zX_jsn2 (p := 20) d_241_19 rfl (fun x2 => ?_)))))))
    refine zX_ic (p := 21) d_241_20 ci_0 rfl (zX_isn3 (p := 22) d_241_21 rfl (zX_ic (p := 23) d_241_22 ci_m1 rfl (zX_is4 (p := 25) d_241_23 rfl ?_)))
    refine zX_bind (s241_l25 hL zfu (0 : Int32) (-1 : Int32) M (.unset)) ?_
    rintro ⟨x12, M13⟩ ⟨s14, s15⟩
    try dsimp only
    refine zX_aln0 (p := 87) d_241_86 rfl (zX_gr (p := 90) (b := 149) d_241_87 ow_241 gf_10_7 zo_148 (zr_10_0 hL zo_148) rfl (zX_bi (p := 92) d_241_90 cb_80 rfl (zX_iln1 (p := 93) d_241_92 rfl (zX_add (p := 94) d_241_93 rfl (zX_iln2 (p := 95) d_241_94 rfl (zX_itg (p := 96) d_241_95 za_149 rfl (fun M16 => ?_)))))))
    refine zX_iln3 (p := 97) d_241_96 rfl ?_
    exact zX_retm d_241_97 rt_241
  · refine zX_ic (p := 9) d_241_8 ci_m1 rfl ?_
    exact zX_retm d_241_9 rt_241

theorem s242_l24 {q : ZQ} {d : Nat} (hL : zLay q) {a1 : Int32} {a2 : Int32} : ∀ (n : Nat) (x3 : Int32) (x4 : Int32) (M5 : ZI), zX q (d + 2) 242 24 [.val (.ref 148), .val (.int a1), .val (.int a2), .val (.int x3), .val (.int x4)] [] M5 (f242_l24 a1 n x3 x4 M5) (zEj q (d + 2) 242 77 (fun (b : Int32 × ZI) (s : Slot) => [.val (.ref 148), .val (.int a1), .val (.int a2), .val (.int b.1), s]) (fun b => []) (fun b => b.2)) := by
  intro n
  induction n with
  | zero => intros; exact zX_none
  | succ n ih =>
    intro x3 x4 M5
    rw [f242_l24]
    refine zX_il4 (p := 26) d_242_24 rfl (zX_aln0 (p := 27) d_242_26 rfl (zX_cV0i (p := 30) ⟨ow_234, by decide⟩ zo_148 d_242_27 ow_242 rs_10_389 kk_234 rfl (s234 hL) rfl rfl rfl rfl (fun v6 => ?_)))
    refine zX_cgt (p1 := 77) (p2 := 33) d_242_30 (by decide) rfl ?_ ?_
    · exact zX_leaf (fun _ _ h => h (.val (.int x4)))
    · refine zX_il4 (p := 35) d_242_33 rfl (zX_iln1 (p := 36) d_242_35 rfl (zX_shr (p := 37) d_242_36 rfl (zX_ic (p := 38) d_242_37 ci_1 rfl (zX_and (p := 39) d_242_38 rfl ?_))))
      refine zX_zne (p1 := 71) (p2 := 42) d_242_39 (by decide) rfl ?_ ?_
      · refine zX_ii4 (p := 74) d_242_71 ci_1 rfl (zX_goto (p := 24) d_242_74 (by decide) ?_)
        exact ih x3 (x4 + (1 : Int32)) M5
      · refine zX_aln0 (p := 43) d_242_42 rfl (zX_il4 (p := 45) d_242_43 rfl (zX_cV1m (p := 48) ⟨ow_215, by decide⟩ zo_148 d_242_45 ow_242 rs_10_336 kk_215 rfl (s215 hL) rfl rfl rfl rfl (fun v7 M8 => ?_)))
        try dsimp only
        refine zX_zeq (p1 := 71) (p2 := 51) d_242_48 (by decide) rfl ?_ ?_
        · refine zX_ii4 (p := 74) d_242_71 ci_1 rfl (zX_goto (p := 24) d_242_74 (by decide) ?_)
          exact ih x3 (x4 + (1 : Int32)) M8
        · refine zX_iln3 (p := 52) d_242_51 rfl (zX_ic (p := 53) d_242_52 ci_m1 rfl ?_)
          refine zX_ceq (p1 := 68) (p2 := 56) d_242_53 (by decide) rfl ?_ ?_
          · refine zX_il4 (p := 70) d_242_68 rfl (zX_isn3 (p := 71) d_242_70 rfl (zX_ii4 (p := 74) d_242_71 ci_1 rfl (zX_goto (p := 24) d_242_74 (by decide) ?_)))
            exact ih x4 (x4 + (1 : Int32)) M8
          · refine zX_il4 (p := 58) d_242_56 rfl (zX_cS1i (p := 61) d_242_58 ow_242 rs_10_311 kk_209 rfl (s209 hL) rfl rfl rfl rfl (fun v9 => ?_))
            refine zX_iln3 (p := 62) d_242_61 rfl (zX_cS1i (p := 65) d_242_62 ow_242 rs_10_311 kk_209 rfl (s209 hL) rfl rfl rfl rfl (fun v10 => ?_))
            refine zX_cge (p1 := 71) (p2 := 68) d_242_65 (by decide) rfl ?_ ?_
            · refine zX_ii4 (p := 74) d_242_71 ci_1 rfl (zX_goto (p := 24) d_242_74 (by decide) ?_)
              exact ih x3 (x4 + (1 : Int32)) M8
            · refine zX_il4 (p := 70) d_242_68 rfl (zX_isn3 (p := 71) d_242_70 rfl (zX_ii4 (p := 74) d_242_71 ci_1 rfl (zX_goto (p := 24) d_242_74 (by decide) ?_)))
              exact ih x4 (x4 + (1 : Int32)) M8

theorem s242 {q : ZQ} {d : Nat} (hL : zLay q) {a1 : Int32} {a2 : Int32} {M : ZI} : zX q (d + 2) 242 0 [.val (.ref 148), .val (.int a1), .val (.int a2), .unset, .unset] [] M (f242_fewest a1 a2 M) zEm := by
  unfold f242_fewest
  refine zX_aln0 (p := 1) d_242_0 rfl (zX_iln1 (p := 2) d_242_1 rfl (zX_cV1i (p := 5) ⟨ow_152, by decide⟩ zo_148 d_242_2 ow_242 rs_10_65 kk_152 rfl (s152 hL) rfl rfl rfl rfl (fun v1 => ?_)))
  refine zX_zeq (p1 := 17) (p2 := 8) d_242_5 (by decide) rfl ?_ ?_
  · refine zX_ic (p := 18) d_242_17 ci_m1 rfl ?_
    exact zX_retm d_242_18 rt_242
  · refine zX_iln2 (p := 9) d_242_8 rfl (zX_ic (p := 10) d_242_9 ci_0 rfl (zX_ic (p := 11) d_242_10 ci_1 rfl (zX_cS3i (p := 14) d_242_11 ow_242 rs_10_53 kk_149 rfl (s149 hL) rfl rfl rfl rfl (fun v2 => ?_))))
    refine zX_zne (p1 := 19) (p2 := 17) d_242_14 (by decide) rfl ?_ ?_
    · refine zX_ic (p := 20) d_242_19 ci_m1 rfl (zX_isn3 (p := 21) d_242_20 rfl (zX_ic (p := 22) d_242_21 ci_0 rfl (zX_is4 (p := 24) d_242_22 rfl ?_)))
      refine zX_bind (s242_l24 hL zfu (-1 : Int32) (0 : Int32) M) ?_
      rintro ⟨x11, M12⟩ s13
      try dsimp only
      refine zX_iln3 (p := 78) d_242_77 rfl (zX_ic (p := 79) d_242_78 ci_m1 rfl ?_)
      refine zX_ceq (p1 := 87) (p2 := 82) d_242_79 (by decide) rfl ?_ ?_
      · refine zX_iln3 (p := 88) d_242_87 rfl (zX_goto (p := 95) d_242_88 (by decide) ?_)
        exact zX_retm d_242_95 rt_242
      · refine zX_iln2 (p := 83) d_242_82 rfl (zX_ic (p := 84) d_242_83 ci_1 rfl ?_)
        refine zX_cne (p1 := 91) (p2 := 87) d_242_84 (by decide) rfl ?_ ?_
        · refine zX_iln3 (p := 92) d_242_91 rfl (zX_cS1i (p := 95) d_242_92 ow_242 rs_10_311 kk_209 rfl (s209 hL) rfl rfl rfl rfl (fun v14 => ?_))
          exact zX_retm d_242_95 rt_242
        · refine zX_iln3 (p := 88) d_242_87 rfl (zX_goto (p := 95) d_242_88 (by decide) ?_)
          exact zX_retm d_242_95 rt_242
    · refine zX_ic (p := 18) d_242_17 ci_m1 rfl ?_
      exact zX_retm d_242_18 rt_242

theorem s244_l2 {q : ZQ} {d : Nat} (hL : zLay q) {a1 : Int32} : ∀ (n : Nat) (x1 : Int32) (M2 : ZI), zX q (d + 2) 244 2 [.val (.ref 148), .val (.int a1), .val (.int x1)] [] M2 (f244_l2 a1 n x1 M2) zEm := by
  intro n
  induction n with
  | zero => intros; exact zX_none
  | succ n ih =>
    intro x1 M2
    rw [f244_l2]
    refine zX_iln2 (p := 3) d_244_2 rfl (zX_aln0 (p := 4) d_244_3 rfl (zX_gr (p := 7) (b := 149) d_244_4 ow_244 gf_10_7 zo_148 (zr_10_0 hL zo_148) rfl (zX_bi (p := 9) d_244_7 cb_48 rfl (zX_iac (p := 10) d_244_9 za_149 rfl zin_48_2064 zi_48 ?_))))
    refine zX_cge (p1 := 44) (p2 := 13) d_244_10 (by decide) rfl ?_ ?_
    · refine zX_ic (p := 45) d_244_44 ci_1 rfl ?_
      exact zX_retmb d_244_45 rt_244 (Or.inr rfl)
    · refine zX_iln1 (p := 14) d_244_13 rfl (zX_iln2 (p := 15) d_244_14 rfl (zX_shr (p := 16) d_244_15 rfl (zX_ic (p := 17) d_244_16 ci_1 rfl (zX_and (p := 18) d_244_17 rfl (zX_ic (p := 19) d_244_18 ci_1 rfl ?_)))))
      refine zX_cne (p1 := 38) (p2 := 22) d_244_19 (by decide) rfl ?_ ?_
      · refine zX_ii2 (p := 41) d_244_38 ci_1 rfl (zX_goto (p := 2) d_244_41 (by decide) ?_)
        exact ih (x1 + (1 : Int32)) M2
      · refine zX_aln0 (p := 23) d_244_22 rfl (zX_iln1 (p := 24) d_244_23 rfl (zX_ic (p := 25) d_244_24 ci_1 rfl (zX_iln2 (p := 26) d_244_25 rfl (zX_shl (p := 27) d_244_26 rfl (zX_ic (p := 28) d_244_27 ci_m1 rfl (zX_xor (p := 29) d_244_28 rfl (zX_and (p := 30) d_244_29 rfl ?_)))))))
        refine zX_cV1m (p := 33) ⟨ow_215, by decide⟩ zo_148 d_244_30 ow_244 rs_10_336 kk_215 rfl (s215 hL) rfl rfl rfl rfl (fun v3 M4 => ?_)
        try dsimp only
        refine zX_zeq (p1 := 38) (p2 := 36) d_244_33 (by decide) rfl ?_ ?_
        · refine zX_ii2 (p := 41) d_244_38 ci_1 rfl (zX_goto (p := 2) d_244_41 (by decide) ?_)
          exact ih (x1 + (1 : Int32)) M4
        · refine zX_ic (p := 37) d_244_36 ci_0 rfl ?_
          exact zX_retmb d_244_37 rt_244 (Or.inl rfl)

theorem s244 {q : ZQ} {d : Nat} (hL : zLay q) {a1 : Int32} {M : ZI} : zX q (d + 2) 244 0 [.val (.ref 148), .val (.int a1), .unset] [] M (f244_needsAll a1 M) zEm := by
  unfold f244_needsAll
  refine zX_ic (p := 1) d_244_0 ci_0 rfl (zX_isn2 (p := 2) d_244_1 rfl ?_)
  exact s244_l2 hL zfu (0 : Int32) M

theorem s243_l24 {q : ZQ} {d : Nat} (hL : zLay q) {a1 : Int32} : ∀ (n : Nat) (x3 : Int32) (x4 : Int32) (x5 : Int32) (x6 : Int32) (M7 : ZI), zX q (d + 3) 243 24 [.val (.ref 148), .val (.int a1), .val (.int x3), .val (.int x4), .val (.int x5), .val (.int x6)] [] M7 (f243_l24 n x3 x4 x5 x6 M7) (zEj q (d + 3) 243 78 (fun (b : Int32 × Int32 × Int32 × ZI) (s : Slot) => [.val (.ref 148), .val (.int a1), .val (.int b.1), .val (.int b.2.1), .val (.int b.2.2.1), s]) (fun b => []) (fun b => b.2.2.2)) := by
  intro n
  induction n with
  | zero => intros; exact zX_none
  | succ n ih =>
    intro x3 x4 x5 x6 M7
    rw [f243_l24]
    refine zX_il5 (p := 26) d_243_24 rfl (zX_aln0 (p := 27) d_243_26 rfl (zX_cV0i (p := 30) ⟨ow_234, by decide⟩ zo_148 d_243_27 ow_243 rs_10_389 kk_234 rfl (s234 hL) rfl rfl rfl rfl (fun v8 => ?_)))
    refine zX_cgt (p1 := 78) (p2 := 33) d_243_30 (by decide) rfl ?_ ?_
    · exact zX_leaf (fun _ _ h => h (.val (.int x6)))
    · refine zX_aln0 (p := 34) d_243_33 rfl (zX_il5 (p := 36) d_243_34 rfl (zX_cV1m (p := 39) ⟨ow_215, by decide⟩ zo_148 d_243_36 ow_243 rs_10_336 kk_215 rfl (s215 hL) rfl rfl rfl rfl (fun v9 M10 => ?_)))
      try dsimp only
      refine zX_zne (p1 := 45) (p2 := 42) d_243_39 (by decide) rfl ?_ ?_
      · refine zX_ii2 (p := 48) d_243_45 ci_1 rfl (zX_iln3 (p := 49) d_243_48 rfl (zX_aln0 (p := 50) d_243_49 rfl (zX_il5 (p := 52) d_243_50 rfl (zX_cV1m (p := 55) ⟨ow_244, by decide⟩ zo_148 d_243_52 ow_243 rs_10_396 kk_244 rfl (s244 hL) rfl rfl rfl rfl (fun v11 M12 => ?_)))))
        try dsimp only
        refine zX_bind (σ := Unit) (β := Int32) (pj := 63) (lj := fun (b : Int32) (s : Unit) => [.val (.ref 148), .val (.int a1), .val (.int (x3 + (1 : Int32))), .val (.int x4), .val (.int x5), .val (.int x6)]) (sj := fun b => [.int b, .int x4]) (mj := fun b => M12) ?_ ?_
        · refine zX_zeq (p1 := 62) (p2 := 58) d_243_55 (by decide) rfl ?_ ?_
          · refine zX_ic (p := 63) d_243_62 ci_0 rfl ?_
            exact zX_leaf (fun _ _ h => h ())
          · refine zX_ic (p := 59) d_243_58 ci_1 rfl (zX_goto (p := 63) d_243_59 (by decide) ?_)
            exact zX_leaf (fun _ _ h => h ())
        · rintro v13 _
          try dsimp only
          refine zX_add (p := 64) d_243_63 rfl (zX_jsn3 (p := 65) d_243_64 rfl (fun x14 => ?_))
          refine zX_il4 (p := 67) d_243_65 rfl (zX_il5 (p := 69) d_243_67 rfl (zX_and (p := 70) d_243_69 rfl (zX_js4 (p := 72) d_243_70 rfl (fun x15 => ?_))))
          refine zX_ii5 (p := 75) d_243_72 ci_1 rfl (zX_goto (p := 24) d_243_75 (by decide) ?_)
          exact ih (x3 + (1 : Int32)) x14 x15 (x6 + (1 : Int32)) M12
      · refine zX_goto (p := 72) d_243_42 (by decide) (zX_ii5 (p := 75) d_243_72 ci_1 rfl (zX_goto (p := 24) d_243_75 (by decide) ?_))
        exact ih x3 x4 x5 (x6 + (1 : Int32)) M10

theorem s243 {q : ZQ} {d : Nat} (hL : zLay q) {a1 : Int32} {M : ZI} : zX q (d + 3) 243 0 [.val (.ref 148), .val (.int a1), .unset, .unset, .unset, .unset] [] M (f243_doers a1 M) zEm := by
  unfold f243_doers
  refine zX_iln1 (p := 1) d_243_0 rfl (zX_ic (p := 2) d_243_1 ci_0 rfl (zX_ic (p := 3) d_243_2 ci_2 rfl (zX_cS3i (p := 6) d_243_3 ow_243 rs_10_53 kk_149 rfl (s149 hL) rfl rfl rfl rfl (fun v1 => ?_))))
  refine zX_zne (p1 := 11) (p2 := 9) d_243_6 (by decide) rfl ?_ ?_
  · refine zX_ic (p := 12) d_243_11 ci_0 rfl (zX_isn2 (p := 13) d_243_12 rfl (zX_ic (p := 14) d_243_13 ci_0 rfl (zX_isn3 (p := 15) d_243_14 rfl (zX_aln0 (p := 16) d_243_15 rfl (zX_cV0i (p := 19) ⟨ow_234, by decide⟩ zo_148 d_243_16 ow_243 rs_10_389 kk_234 rfl (s234 hL) rfl rfl rfl rfl (fun v2 => ?_))))))
    refine zX_is4 (p := 21) d_243_19 rfl (zX_ic (p := 22) d_243_21 ci_0 rfl (zX_is5 (p := 24) d_243_22 rfl ?_))
    refine zX_bind (s243_l24 hL zfu (0 : Int32) (0 : Int32) v2 (0 : Int32) M) ?_
    rintro ⟨x16, x17, x18, M19⟩ s20
    try dsimp only
    refine zX_iln1 (p := 79) d_243_78 rfl ?_
    refine zX_zne (p1 := 86) (p2 := 82) d_243_79 (by decide) rfl ?_ ?_
    · refine zX_iln1 (p := 87) d_243_86 rfl (zX_ic (p := 88) d_243_87 ci_1 rfl ?_)
      refine zX_cne (p1 := 95) (p2 := 91) d_243_88 (by decide) rfl ?_ ?_
      · refine zX_il4 (p := 97) d_243_95 rfl ?_
        exact zX_retm d_243_97 rt_243
      · refine zX_iln3 (p := 92) d_243_91 rfl (zX_goto (p := 97) d_243_92 (by decide) ?_)
        exact zX_retm d_243_97 rt_243
    · refine zX_iln2 (p := 83) d_243_82 rfl (zX_goto (p := 97) d_243_83 (by decide) ?_)
      exact zX_retm d_243_97 rt_243
  · refine zX_ic (p := 10) d_243_9 ci_m1 rfl ?_
    exact zX_retm d_243_10 rt_243

theorem s245_l14 {q : ZQ} {d : Nat} (hL : zLay q) {a1 : Int32} : ∀ (n : Nat) (x2 : Int32) (x3 : Int32) (M4 : ZI), zX q (d + 2) 245 14 [.val (.ref 148), .val (.int a1), .val (.int x2), .val (.int x3)] [] M4 (f245_l14 a1 n x2 x3 M4) (zEj q (d + 2) 245 64 (fun (b : Int32 × ZI) (s : Slot) => [.val (.ref 148), .val (.int a1), .val (.int b.1), s]) (fun b => []) (fun b => b.2)) := by
  intro n
  induction n with
  | zero => intros; exact zX_none
  | succ n ih =>
    intro x2 x3 M4
    rw [f245_l14]
    refine zX_iln3 (p := 15) d_245_14 rfl (zX_aln0 (p := 16) d_245_15 rfl (zX_cV0i (p := 19) ⟨ow_234, by decide⟩ zo_148 d_245_16 ow_245 rs_10_389 kk_234 rfl (s234 hL) rfl rfl rfl rfl (fun v5 => ?_)))
    refine zX_cgt (p1 := 64) (p2 := 22) d_245_19 (by decide) rfl ?_ ?_
    · exact zX_leaf (fun _ _ h => h (.val (.int x3)))
    · refine zX_iln2 (p := 23) d_245_22 rfl (zX_iln3 (p := 24) d_245_23 rfl (zX_iln1 (p := 25) d_245_24 rfl (zX_shr (p := 26) d_245_25 rfl (zX_ic (p := 27) d_245_26 ci_1 rfl (zX_and (p := 28) d_245_27 rfl ?_)))))
      refine zX_zne (p1 := 55) (p2 := 31) d_245_28 (by decide) rfl ?_ ?_
      · refine zX_ic (p := 56) d_245_55 ci_0 rfl (zX_add (p := 57) d_245_56 rfl (zX_jsn2 (p := 58) d_245_57 rfl (fun x6 => ?_)))
        refine zX_ii3 (p := 61) d_245_58 ci_1 rfl (zX_goto (p := 14) d_245_61 (by decide) ?_)
        exact ih x6 (x3 + (1 : Int32)) M4
      · refine zX_aln0 (p := 32) d_245_31 rfl (zX_iln3 (p := 33) d_245_32 rfl (zX_cV1m (p := 36) ⟨ow_215, by decide⟩ zo_148 d_245_33 ow_245 rs_10_336 kk_215 rfl (s215 hL) rfl rfl rfl rfl (fun v7 M8 => ?_)))
        try dsimp only
        refine zX_zne (p1 := 55) (p2 := 39) d_245_36 (by decide) rfl ?_ ?_
        · refine zX_ic (p := 56) d_245_55 ci_0 rfl (zX_add (p := 57) d_245_56 rfl (zX_jsn2 (p := 58) d_245_57 rfl (fun x9 => ?_)))
          refine zX_ii3 (p := 61) d_245_58 ci_1 rfl (zX_goto (p := 14) d_245_61 (by decide) ?_)
          exact ih x9 (x3 + (1 : Int32)) M8
        · refine zX_aln0 (p := 40) d_245_39 rfl (zX_iln3 (p := 41) d_245_40 rfl (zX_ic (p := 42) d_245_41 ci_1 rfl (zX_iln1 (p := 43) d_245_42 rfl (zX_shl (p := 44) d_245_43 rfl (zX_or (p := 45) d_245_44 rfl (zX_cV1m (p := 48) ⟨ow_215, by decide⟩ zo_148 d_245_45 ow_245 rs_10_336 kk_215 rfl (s215 hL) rfl rfl rfl rfl (fun v10 M11 => ?_)))))))
          try dsimp only
          refine zX_zeq (p1 := 55) (p2 := 51) d_245_48 (by decide) rfl ?_ ?_
          · refine zX_ic (p := 56) d_245_55 ci_0 rfl (zX_add (p := 57) d_245_56 rfl (zX_jsn2 (p := 58) d_245_57 rfl (fun x12 => ?_)))
            refine zX_ii3 (p := 61) d_245_58 ci_1 rfl (zX_goto (p := 14) d_245_61 (by decide) ?_)
            exact ih x12 (x3 + (1 : Int32)) M11
          · refine zX_ic (p := 52) d_245_51 ci_1 rfl (zX_goto (p := 56) d_245_52 (by decide) (zX_add (p := 57) d_245_56 rfl (zX_jsn2 (p := 58) d_245_57 rfl (fun x13 => ?_))))
            refine zX_ii3 (p := 61) d_245_58 ci_1 rfl (zX_goto (p := 14) d_245_61 (by decide) ?_)
            exact ih x13 (x3 + (1 : Int32)) M11

theorem s245 {q : ZQ} {d : Nat} (hL : zLay q) {a1 : Int32} {M : ZI} : zX q (d + 2) 245 0 [.val (.ref 148), .val (.int a1), .unset, .unset] [] M (f245_hinge a1 M) zEm := by
  unfold f245_hinge
  refine zX_aln0 (p := 1) d_245_0 rfl (zX_iln1 (p := 2) d_245_1 rfl (zX_cV1i (p := 5) ⟨ow_152, by decide⟩ zo_148 d_245_2 ow_245 rs_10_65 kk_152 rfl (s152 hL) rfl rfl rfl rfl (fun v1 => ?_)))
  refine zX_zne (p1 := 10) (p2 := 8) d_245_5 (by decide) rfl ?_ ?_
  · refine zX_ic (p := 11) d_245_10 ci_0 rfl (zX_isn2 (p := 12) d_245_11 rfl (zX_ic (p := 13) d_245_12 ci_0 rfl (zX_isn3 (p := 14) d_245_13 rfl ?_)))
    refine zX_bind (s245_l14 hL zfu (0 : Int32) (0 : Int32) M) ?_
    rintro ⟨x14, M15⟩ s16
    try dsimp only
    refine zX_iln2 (p := 65) d_245_64 rfl ?_
    exact zX_retm d_245_65 rt_245
  · refine zX_ic (p := 9) d_245_8 ci_m1 rfl ?_
    exact zX_retm d_245_9 rt_245

theorem s248 {q : ZQ} {d : Nat} (hL : zLay q) {a1 : Int32} {a2 : Int32} {M : ZI} : zX q d 248 0 [.val (.ref 148), .val (.int a1), .val (.int a2)] [] M (f248_isInTime a1 a2 M) (zEi M) := by
  unfold f248_isInTime
  refine zX_aln0 (p := 1) d_248_0 rfl (zX_gr (p := 4) (b := 149) d_248_1 ow_248 gf_10_7 zo_148 (zr_10_0 hL zo_148) rfl (zX_ic (p := 5) d_248_4 ci_0 rfl (zX_iac (p := 6) d_248_5 za_149 rfl zin_0_2064 zi_0 (zX_iln2 (p := 7) d_248_6 rfl (zX_add (p := 8) d_248_7 rfl (zX_aln0 (p := 9) d_248_8 rfl (zX_gr (p := 12) (b := 149) d_248_9 ow_248 gf_10_7 zo_148 (zr_10_0 hL zo_148) rfl ?_)))))))
  refine zX_bi (p := 14) d_248_12 cb_70 rfl (zX_iln1 (p := 15) d_248_14 rfl (zX_add (p := 16) d_248_15 rfl (zX_iag (p := 17) d_248_16 za_149 rfl ?_)))
  refine zX_cgt (p1 := 24) (p2 := 20) d_248_17 (by decide) rfl ?_ ?_
  · refine zX_ic (p := 25) d_248_24 ci_0 rfl ?_
    exact zX_retib d_248_25 rt_248 (Or.inl rfl)
  · refine zX_ic (p := 21) d_248_20 ci_1 rfl (zX_goto (p := 25) d_248_21 (by decide) ?_)
    exact zX_retib d_248_25 rt_248 (Or.inr rfl)

theorem s247_l44 {q : ZQ} {d : Nat} (hL : zLay q) {a1 : Int32} {x1 : Int32} {x6 : Int32} {M9 : ZI} : ∀ (n : Nat) (x12 : Int32) (x13 : Int32), zX q (d + 1) 247 44 [.val (.ref 148), .val (.int a1), .val (.int x1), .val (.int x6), .val (.int x12), .val (.int x13)] [] M9 (f247_l44 a1 x1 x6 M9 n x12 x13) (zEj q (d + 1) 247 117 (fun (b : Int32) (s : Slot) => [.val (.ref 148), .val (.int a1), .val (.int x1), .val (.int x6), .val (.int b), s]) (fun b => []) (fun b => M9)) := by
  intro n
  induction n with
  | zero => intros; exact zX_none
  | succ n ih =>
    intro x12 x13
    rw [f247_l44]
    refine zX_il5 (p := 46) d_247_44 rfl (zX_aln0 (p := 47) d_247_46 rfl (zX_gr (p := 50) (b := 149) d_247_47 ow_247 gf_10_7 zo_148 (zr_10_0 hL zo_148) rfl (zX_bi (p := 52) d_247_50 cb_48 rfl (zX_iac (p := 53) d_247_52 za_149 rfl zin_48_2064 zi_48 ?_))))
    refine zX_cge (p1 := 117) (p2 := 56) d_247_53 (by decide) rfl ?_ ?_
    · exact zX_leaf (fun _ _ h => h (.val (.int x13)))
    · refine zX_iln2 (p := 57) d_247_56 rfl (zX_iln1 (p := 58) d_247_57 rfl ?_)
      refine zX_cge (p1 := 117) (p2 := 61) d_247_58 (by decide) rfl ?_ ?_
      · exact zX_leaf (fun _ _ h => h (.val (.int x13)))
      · refine zX_iln3 (p := 62) d_247_61 rfl (zX_il5 (p := 64) d_247_62 rfl (zX_shr (p := 65) d_247_64 rfl (zX_ic (p := 66) d_247_65 ci_1 rfl (zX_and (p := 67) d_247_66 rfl (zX_ic (p := 68) d_247_67 ci_1 rfl ?_)))))
        refine zX_cne (p1 := 111) (p2 := 71) d_247_68 (by decide) rfl ?_ ?_
        · refine zX_ii5 (p := 114) d_247_111 ci_1 rfl (zX_goto (p := 44) d_247_114 (by decide) ?_)
          exact ih x12 (x13 + (1 : Int32))
        · refine zX_aln0 (p := 72) d_247_71 rfl (zX_il5 (p := 74) d_247_72 rfl (zX_iln2 (p := 75) d_247_74 rfl (zX_cV2i (p := 78) ⟨ow_248, by decide⟩ zo_148 d_247_75 ow_247 rs_10_399 kk_248 rfl (s248 hL) rfl rfl rfl rfl (fun v14 => ?_))))
          refine zX_zeq (p1 := 111) (p2 := 81) d_247_78 (by decide) rfl ?_ ?_
          · refine zX_ii5 (p := 114) d_247_111 ci_1 rfl (zX_goto (p := 44) d_247_114 (by decide) ?_)
            exact ih x12 (x13 + (1 : Int32))
          · refine zX_il4 (p := 83) d_247_81 rfl (zX_ic (p := 84) d_247_83 ci_1 rfl (zX_aln0 (p := 85) d_247_84 rfl (zX_gr (p := 88) (b := 161) d_247_85 ow_247 gf_10_50 zo_148 (zr_10_31 hL zo_148) rfl (zX_si (p := 91) d_247_88 cs_1024 rfl (zX_iln2 (p := 92) d_247_91 rfl (zX_ic (p := 93) d_247_92 ci_1 rfl (zX_add (p := 94) d_247_93 rfl ?_)))))))
            refine zX_mul (p := 95) d_247_94 rfl (zX_iln3 (p := 96) d_247_95 rfl (zX_ic (p := 97) d_247_96 ci_1 rfl (zX_il5 (p := 99) d_247_97 rfl (zX_shl (p := 100) d_247_99 rfl (zX_ic (p := 101) d_247_100 ci_m1 rfl (zX_xor (p := 102) d_247_101 rfl (zX_and (p := 103) d_247_102 rfl ?_)))))))
            refine zX_add (p := 104) d_247_103 rfl (zX_iag (p := 105) d_247_104 za_161 rfl (zX_add (p := 106) d_247_105 rfl (zX_cS2i (p := 109) d_247_106 ow_247 rs_10_320 kk_213 rfl (s213 hL) rfl rfl rfl rfl (fun v15 => ?_))))
            refine zX_is4 (p := 111) d_247_109 rfl (zX_ii5 (p := 114) d_247_111 ci_1 rfl (zX_goto (p := 44) d_247_114 (by decide) ?_))
            exact ih v15 (x13 + (1 : Int32))

theorem s247_l8 {q : ZQ} {d : Nat} (hL : zLay q) {a1 : Int32} {x1 : Int32} : ∀ (n : Nat) (x6 : Int32) (M9 : ZI) (s7 : Slot) (s8 : Slot), zX q (d + 1) 247 8 [.val (.ref 148), .val (.int a1), .val (.int x1), .val (.int x6), s7, s8] [] M9 (f247_l8 a1 x1 n x6 M9) (zEj q (d + 1) 247 137 (fun (b : ZI) (s : Slot × Slot × Slot) => [.val (.ref 148), .val (.int a1), .val (.int x1), s.1, s.2.1, s.2.2]) (fun b => []) (fun b => b)) := by
  intro n
  induction n with
  | zero => intros; exact zX_none
  | succ n ih =>
    intro x6 M9 s7 s8
    rw [f247_l8]
    refine zX_iln3 (p := 9) d_247_8 rfl (zX_aln0 (p := 10) d_247_9 rfl (zX_cV0i (p := 13) ⟨ow_234, by decide⟩ zo_148 d_247_10 ow_247 rs_10_389 kk_234 rfl (s234 hL) rfl rfl rfl rfl (fun v10 => ?_)))
    refine zX_cgt (p1 := 137) (p2 := 16) d_247_13 (by decide) rfl ?_ ?_
    · exact zX_leaf (fun _ _ h => h (.val (.int x6), s7, s8))
    · refine zX_iln2 (p := 17) d_247_16 rfl (zX_iln1 (p := 18) d_247_17 rfl ?_)
      refine zX_bind (σ := Unit) (β := Int32) (pj := 39) (lj := fun (b : Int32) (s : Unit) => [.val (.ref 148), .val (.int a1), .val (.int x1), .val (.int x6), s7, s8]) (sj := fun b => [.int b]) (mj := fun b => M9) ?_ ?_
      · refine zX_cne (p1 := 25) (p2 := 21) d_247_18 (by decide) rfl ?_ ?_
        · refine zX_aln0 (p := 26) d_247_25 rfl (zX_gr (p := 29) (b := 161) d_247_26 ow_247 gf_10_50 zo_148 (zr_10_31 hL zo_148) rfl (zX_si (p := 32) d_247_29 cs_1024 rfl (zX_iln2 (p := 33) d_247_32 rfl (zX_ic (p := 34) d_247_33 ci_1 rfl (zX_add (p := 35) d_247_34 rfl (zX_mul (p := 36) d_247_35 rfl (zX_iln3 (p := 37) d_247_36 rfl ?_)))))))
          refine zX_add (p := 38) d_247_37 rfl (zX_iag (p := 39) d_247_38 za_161 rfl ?_)
          exact zX_leaf (fun _ _ h => h ())
        · refine zX_ic (p := 22) d_247_21 ci_0 rfl (zX_goto (p := 39) d_247_22 (by decide) ?_)
          exact zX_leaf (fun _ _ h => h ())
      · rintro v11 _
        try dsimp only
        refine zX_is4 (p := 41) d_247_39 rfl (zX_ic (p := 42) d_247_41 ci_0 rfl (zX_is5 (p := 44) d_247_42 rfl ?_))
        refine zX_bind (s247_l44 hL zfu v11 (0 : Int32)) ?_
        rintro x16 s17
        try dsimp only
        refine zX_aln0 (p := 118) d_247_117 rfl (zX_gr (p := 121) (b := 161) d_247_118 ow_247 gf_10_50 zo_148 (zr_10_31 hL zo_148) rfl (zX_si (p := 124) d_247_121 cs_1024 rfl (zX_iln2 (p := 125) d_247_124 rfl (zX_mul (p := 126) d_247_125 rfl (zX_iln3 (p := 127) d_247_126 rfl (zX_add (p := 128) d_247_127 rfl (zX_il4 (p := 130) d_247_128 rfl ?_)))))))
        refine zX_itg (p := 131) d_247_130 za_161 rfl (fun M18 => ?_)
        refine zX_ii3 (p := 134) d_247_131 ci_1 rfl (zX_goto (p := 8) d_247_134 (by decide) ?_)
        exact ih (x6 + (1 : Int32)) M18 (.val (.int x16)) (s17)

theorem s247_l2 {q : ZQ} {d : Nat} (hL : zLay q) {a1 : Int32} : ∀ (n : Nat) (x1 : Int32) (M5 : ZI) (s2 : Slot) (s3 : Slot) (s4 : Slot), zX q (d + 1) 247 2 [.val (.ref 148), .val (.int a1), .val (.int x1), s2, s3, s4] [] M5 (f247_l2 a1 n x1 M5) (zEj q (d + 1) 247 143 (fun (b : ZI) (s : Slot × Slot × Slot × Slot) => [.val (.ref 148), .val (.int a1), s.1, s.2.1, s.2.2.1, s.2.2.2]) (fun b => []) (fun b => b)) := by
  intro n
  induction n with
  | zero => intros; exact zX_none
  | succ n ih =>
    intro x1 M5 s2 s3 s4
    rw [f247_l2]
    refine zX_iln2 (p := 3) d_247_2 rfl ?_
    refine zX_zlt (p1 := 143) (p2 := 6) d_247_3 (by decide) rfl ?_ ?_
    · exact zX_leaf (fun _ _ h => h (.val (.int x1), s2, s3, s4))
    · refine zX_ic (p := 7) d_247_6 ci_0 rfl (zX_isn3 (p := 8) d_247_7 rfl ?_)
      refine zX_bind (s247_l8 hL zfu (0 : Int32) M5 (s3) (s4)) ?_
      rintro M19 ⟨s20, s21, s22⟩
      try dsimp only
      refine zX_ii2 (p := 140) d_247_137 ci_m1 rfl (zX_goto (p := 2) d_247_140 (by decide) ?_)
      exact ih (x1 + (-1 : Int32)) M19 (s20) (s21) (s22)

theorem s247 {q : ZQ} {d : Nat} (hL : zLay q) {a1 : Int32} {M : ZI} : zX q (d + 1) 247 0 [.val (.ref 148), .val (.int a1), .unset, .unset, .unset, .unset] [] M (f247_laysTurns a1 M) zEv := by
  unfold f247_laysTurns
  refine zX_iln1 (p := 1) d_247_0 rfl (zX_isn2 (p := 2) d_247_1 rfl ?_)
  refine zX_bind (s247_l2 hL zfu a1 M (.unset) (.unset) (.unset)) ?_
  rintro M23 ⟨s24, s25, s26, s27⟩
  try dsimp only
  exact zX_retv d_247_143 rt_247

theorem s249_l2 {q : ZQ} {d : Nat} (hL : zLay q) {a1 : Int32} {a2 : Int32} {M : ZI} : ∀ (n : Nat) (x1 : Int32), zX q (d + 1) 249 2 [.val (.ref 148), .val (.int a1), .val (.int a2), .val (.int x1)] [] M (f249_l2 a1 a2 M n x1) (zEi M) := by
  intro n
  induction n with
  | zero => intros; exact zX_none
  | succ n ih =>
    intro x1
    rw [f249_l2]
    refine zX_iln3 (p := 3) d_249_2 rfl (zX_aln0 (p := 4) d_249_3 rfl (zX_gr (p := 7) (b := 149) d_249_4 ow_249 gf_10_7 zo_148 (zr_10_0 hL zo_148) rfl (zX_bi (p := 9) d_249_7 cb_48 rfl (zX_iac (p := 10) d_249_9 za_149 rfl zin_48_2064 zi_48 ?_))))
    refine zX_cge (p1 := 76) (p2 := 13) d_249_10 (by decide) rfl ?_ ?_
    · refine zX_ic (p := 77) d_249_76 ci_m1 rfl ?_
      exact zX_reti d_249_77 rt_249
    · refine zX_iln2 (p := 14) d_249_13 rfl (zX_iln3 (p := 15) d_249_14 rfl (zX_shr (p := 16) d_249_15 rfl (zX_ic (p := 17) d_249_16 ci_1 rfl (zX_and (p := 18) d_249_17 rfl (zX_ic (p := 19) d_249_18 ci_1 rfl ?_)))))
      refine zX_cne (p1 := 70) (p2 := 22) d_249_19 (by decide) rfl ?_ ?_
      · refine zX_ii3 (p := 73) d_249_70 ci_1 rfl (zX_goto (p := 2) d_249_73 (by decide) ?_)
        exact ih (x1 + (1 : Int32))
      · refine zX_aln0 (p := 23) d_249_22 rfl (zX_iln3 (p := 24) d_249_23 rfl (zX_iln1 (p := 25) d_249_24 rfl (zX_cV2i (p := 28) ⟨ow_248, by decide⟩ zo_148 d_249_25 ow_249 rs_10_399 kk_248 rfl (s248 hL) rfl rfl rfl rfl (fun v2 => ?_))))
        refine zX_zeq (p1 := 70) (p2 := 31) d_249_28 (by decide) rfl ?_ ?_
        · refine zX_ii3 (p := 73) d_249_70 ci_1 rfl (zX_goto (p := 2) d_249_73 (by decide) ?_)
          exact ih (x1 + (1 : Int32))
        · refine zX_ic (p := 32) d_249_31 ci_1 rfl (zX_aln0 (p := 33) d_249_32 rfl (zX_gr (p := 36) (b := 161) d_249_33 ow_249 gf_10_50 zo_148 (zr_10_31 hL zo_148) rfl (zX_si (p := 39) d_249_36 cs_1024 rfl (zX_iln1 (p := 40) d_249_39 rfl (zX_ic (p := 41) d_249_40 ci_1 rfl (zX_add (p := 42) d_249_41 rfl (zX_mul (p := 43) d_249_42 rfl ?_)))))))
          refine zX_iln2 (p := 44) d_249_43 rfl (zX_ic (p := 45) d_249_44 ci_1 rfl (zX_iln3 (p := 46) d_249_45 rfl (zX_shl (p := 47) d_249_46 rfl (zX_ic (p := 48) d_249_47 ci_m1 rfl (zX_xor (p := 49) d_249_48 rfl (zX_and (p := 50) d_249_49 rfl (zX_add (p := 51) d_249_50 rfl ?_)))))))
          refine zX_iag (p := 52) d_249_51 za_161 rfl (zX_add (p := 53) d_249_52 rfl (zX_aln0 (p := 54) d_249_53 rfl (zX_gr (p := 57) (b := 161) d_249_54 ow_249 gf_10_50 zo_148 (zr_10_31 hL zo_148) rfl (zX_si (p := 60) d_249_57 cs_1024 rfl (zX_iln1 (p := 61) d_249_60 rfl (zX_mul (p := 62) d_249_61 rfl (zX_iln2 (p := 63) d_249_62 rfl ?_)))))))
          refine zX_add (p := 64) d_249_63 rfl (zX_iag (p := 65) d_249_64 za_161 rfl ?_)
          refine zX_cne (p1 := 70) (p2 := 68) d_249_65 (by decide) rfl ?_ ?_
          · refine zX_ii3 (p := 73) d_249_70 ci_1 rfl (zX_goto (p := 2) d_249_73 (by decide) ?_)
            exact ih (x1 + (1 : Int32))
          · refine zX_iln3 (p := 69) d_249_68 rfl ?_
            exact zX_reti d_249_69 rt_249

theorem s249 {q : ZQ} {d : Nat} (hL : zLay q) {a1 : Int32} {a2 : Int32} {M : ZI} : zX q (d + 1) 249 0 [.val (.ref 148), .val (.int a1), .val (.int a2), .unset] [] M (f249_takerIn a1 a2 M) (zEi M) := by
  unfold f249_takerIn
  refine zX_ic (p := 1) d_249_0 ci_0 rfl (zX_isn3 (p := 2) d_249_1 rfl ?_)
  exact s249_l2 hL zfu (0 : Int32)

theorem s246_l60 {q : ZQ} {d : Nat} (hL : zLay q) {a1 : Int32} {a2 : Int32} {M2 : ZI} : ∀ (n : Nat) (x4 : Int32) (x5 : Int32) (x6 : Int32), zX q (d + 2) 246 60 [.val (.ref 148), .val (.int a1), .val (.int a2), .val (.int x4), .val (.int x5), .val (.int x6)] [] M2 (f246_l60 a2 M2 n x4 x5 x6) (zEj q (d + 2) 246 103 (fun (b : Int32) (s : Slot × Slot) => [.val (.ref 148), .val (.int a1), .val (.int a2), s.1, .val (.int b), s.2]) (fun b => []) (fun b => M2)) := by
  intro n
  induction n with
  | zero => intros; exact zX_none
  | succ n ih =>
    intro x4 x5 x6
    rw [f246_l60]
    refine zX_il5 (p := 62) d_246_60 rfl (zX_iln2 (p := 63) d_246_62 rfl (zX_bi (p := 65) d_246_63 cb_10 rfl (zX_sub (p := 66) d_246_65 rfl ?_)))
    refine zX_cgt (p1 := 103) (p2 := 69) d_246_66 (by decide) rfl ?_ ?_
    · exact zX_leaf (fun _ _ h => h (.val (.int x4), .val (.int x6)))
    · refine zX_aln0 (p := 70) d_246_69 rfl (zX_il5 (p := 72) d_246_70 rfl (zX_iln3 (p := 73) d_246_72 rfl (zX_cV2i (p := 76) ⟨ow_249, by decide⟩ zo_148 d_246_73 ow_246 rs_10_405 kk_249 rfl (s249 hL) rfl rfl rfl rfl (fun v7 => ?_))))
      refine zX_is4 (p := 78) d_246_76 rfl (zX_iln3 (p := 79) d_246_78 rfl (zX_il4 (p := 81) d_246_79 rfl (zX_ic (p := 82) d_246_81 ci_m1 rfl ?_)))
      refine zX_cne (p1 := 89) (p2 := 85) d_246_82 (by decide) rfl ?_ ?_
      · refine zX_ic (p := 90) d_246_89 ci_1 rfl (zX_il4 (p := 92) d_246_90 rfl (zX_shl (p := 93) d_246_92 rfl (zX_ic (p := 94) d_246_93 ci_m1 rfl (zX_xor (p := 95) d_246_94 rfl (zX_and (p := 96) d_246_95 rfl (zX_jsn3 (p := 97) d_246_96 rfl (fun x8 => ?_)))))))
        refine zX_ii5 (p := 100) d_246_97 ci_1 rfl (zX_goto (p := 60) d_246_100 (by decide) ?_)
        exact ih x8 v7 (x6 + (1 : Int32))
      · refine zX_iln3 (p := 86) d_246_85 rfl (zX_goto (p := 95) d_246_86 (by decide) (zX_and (p := 96) d_246_95 rfl (zX_jsn3 (p := 97) d_246_96 rfl (fun x9 => ?_))))
        refine zX_ii5 (p := 100) d_246_97 ci_1 rfl (zX_goto (p := 60) d_246_100 (by decide) ?_)
        exact ih x9 v7 (x6 + (1 : Int32))

theorem s246 {q : ZQ} {d : Nat} (hL : zLay q) {a1 : Int32} {a2 : Int32} {M : ZI} : zX q (d + 2) 246 0 [.val (.ref 148), .val (.int a1), .val (.int a2), .unset, .unset, .unset] [] M (f246_turnsOf a1 a2 M) zEm := by
  unfold f246_turnsOf
  refine zX_iln1 (p := 1) d_246_0 rfl (zX_ic (p := 2) d_246_1 ci_1 rfl (zX_bi (p := 4) d_246_2 cb_10 rfl (zX_cS3i (p := 7) d_246_4 ow_246 rs_10_53 kk_149 rfl (s149 hL) rfl rfl rfl rfl (fun v1 => ?_))))
  refine zX_zeq (p1 := 27) (p2 := 10) d_246_7 (by decide) rfl ?_ ?_
  · refine zX_bi (p := 29) d_246_27 cb_m2 rfl ?_
    exact zX_retm d_246_29 rt_246
  · refine zX_iln2 (p := 11) d_246_10 rfl ?_
    refine zX_jn (P := fun g => ∀ (_ : Unit), zX q (d + 2) 246 30 [.val (.ref 148), .val (.int a1), .val (.int a2), .unset, .unset, .unset] [] M (g ()) zEm) ?_ (fun j14 hj14 => ?_)
    · intro _
      try dsimp only
      refine zX_aln0 (p := 31) d_246_30 rfl (zX_iln1 (p := 32) d_246_31 rfl (zX_cV1v (p := 35) ⟨ow_247, by decide⟩ zo_148 d_246_32 ow_246 rs_10_402 kk_247 rfl (s247 hL) rfl rfl rfl rfl (fun M2 => ?_)))
      refine zX_iln2 (p := 36) d_246_35 rfl ?_
      refine zX_zne (p1 := 49) (p2 := 39) d_246_36 (by decide) rfl ?_ ?_
      · refine zX_aln0 (p := 50) d_246_49 rfl (zX_cV0i (p := 53) ⟨ow_234, by decide⟩ zo_148 d_246_50 ow_246 rs_10_389 kk_234 rfl (s234 hL) rfl rfl rfl rfl (fun v3 => ?_))
        refine zX_isn3 (p := 54) d_246_53 rfl (zX_ic (p := 55) d_246_54 ci_m1 rfl (zX_is4 (p := 57) d_246_55 rfl (zX_ic (p := 58) d_246_57 ci_0 rfl (zX_is5 (p := 60) d_246_58 rfl ?_))))
        refine zX_bind (s246_l60 hL zfu v3 (-1 : Int32) (0 : Int32)) ?_
        rintro x10 ⟨s11, s12⟩
        try dsimp only
        refine zX_il4 (p := 105) d_246_103 rfl ?_
        exact zX_retm d_246_105 rt_246
      · refine zX_aln0 (p := 40) d_246_39 rfl (zX_gr (p := 43) (b := 161) d_246_40 ow_246 gf_10_50 zo_148 (zr_10_31 hL zo_148) rfl (zX_aln0 (p := 44) d_246_43 rfl (zX_cV0i (p := 47) ⟨ow_234, by decide⟩ zo_148 d_246_44 ow_246 rs_10_389 kk_234 rfl (s234 hL) rfl rfl rfl rfl (fun v13 => ?_))))
        refine zX_iag (p := 48) d_246_47 za_161 rfl ?_
        exact zX_retm d_246_48 rt_246
    · refine zX_zeq (p1 := 30) (p2 := 14) d_246_11 (by decide) rfl ?_ ?_
      · exact hj14 ()
      · refine zX_iln2 (p := 15) d_246_14 rfl (zX_bi (p := 17) d_246_15 cb_10 rfl (zX_bi (p := 19) d_246_17 cb_9 rfl (zX_iln1 (p := 20) d_246_19 rfl (zX_add (p := 21) d_246_20 rfl (zX_cS3i (p := 24) d_246_21 ow_246 rs_10_53 kk_149 rfl (s149 hL) rfl rfl rfl rfl (fun v15 => ?_))))))
        refine zX_zne (p1 := 30) (p2 := 27) d_246_24 (by decide) rfl ?_ ?_
        · exact hj14 ()
        · refine zX_bi (p := 29) d_246_27 cb_m2 rfl ?_
          exact zX_retm d_246_29 rt_246

theorem s250 {q : ZQ} {d : Nat} (hL : zLay q) {a1 : Int32} {a2 : Int32} {M : ZI} : zX q (d + 1) 250 0 [.val (.ref 148), .val (.int a1), .val (.int a2)] [] M (f250_traces a1 a2 M) zEm := by
  unfold f250_traces
  refine zX_iln1 (p := 1) d_250_0 rfl (zX_ic (p := 2) d_250_1 ci_0 rfl (zX_si (p := 5) d_250_2 cs_200 rfl (zX_cS3i (p := 8) d_250_5 ow_250 rs_10_53 kk_149 rfl (s149 hL) rfl rfl rfl rfl (fun v1 => ?_))))
  refine zX_zeq (p1 := 22) (p2 := 11) d_250_8 (by decide) rfl ?_ ?_
  · refine zX_ic (p := 23) d_250_22 ci_0 rfl ?_
    exact zX_retmb d_250_23 rt_250 (Or.inl rfl)
  · refine zX_iln2 (p := 12) d_250_11 rfl (zX_ic (p := 13) d_250_12 ci_0 rfl (zX_si (p := 16) d_250_13 cs_200 rfl (zX_cS3i (p := 19) d_250_16 ow_250 rs_10_53 kk_149 rfl (s149 hL) rfl rfl rfl rfl (fun v2 => ?_))))
    refine zX_zne (p1 := 24) (p2 := 22) d_250_19 (by decide) rfl ?_ ?_
    · refine zX_aln0 (p := 25) d_250_24 rfl (zX_gr (p := 28) (b := 149) d_250_25 ow_250 gf_10_7 zo_148 (zr_10_0 hL zo_148) rfl (zX_bi (p := 30) d_250_28 cb_56 rfl (zX_iln1 (p := 31) d_250_30 rfl (zX_itc (p := 32) d_250_31 za_149 rfl zin_56_2064 zi_56 (fun M3 => ?_)))))
      refine zX_aln0 (p := 33) d_250_32 rfl (zX_gr (p := 36) (b := 149) d_250_33 ow_250 gf_10_7 zo_148 (zr_10_0 hL zo_148) rfl (zX_bi (p := 38) d_250_36 cb_57 rfl (zX_iln2 (p := 39) d_250_38 rfl (zX_itc (p := 40) d_250_39 za_149 rfl zin_57_2064 zi_57 (fun M4 => ?_)))))
      refine zX_aln0 (p := 41) d_250_40 rfl (zX_cV0v (p := 44) ⟨ow_147, by decide⟩ zo_148 d_250_41 ow_250 rs_10_60 kk_147 rfl (s147 hL) rfl rfl rfl rfl (fun M5 => ?_))
      refine zX_ic (p := 45) d_250_44 ci_1 rfl ?_
      exact zX_retmb d_250_45 rt_250 (Or.inr rfl)
    · refine zX_ic (p := 23) d_250_22 ci_0 rfl ?_
      exact zX_retmb d_250_23 rt_250 (Or.inl rfl)

theorem s253 {q : ZQ} {d : Nat} (hL : zLay q) {a1 : Int32} {a2 : Int32} {M : ZI} : zX q (d + 2) 253 0 [.val (.ref 148), .val (.int a1), .val (.int a2)] [] M (f253_fitsTraces a1 a2 M) (zEi M) := by
  unfold f253_fitsTraces
  refine zX_aln0 (p := 1) d_253_0 rfl (zX_iln1 (p := 2) d_253_1 rfl (zX_ic (p := 3) d_253_2 ci_3 rfl (zX_cV2i (p := 6) ⟨ow_221, by decide⟩ zo_148 d_253_3 ow_253 rs_10_355 kk_221 rfl (s221 hL) rfl rfl rfl rfl (fun v1 => ?_))))
  refine zX_aln0 (p := 7) d_253_6 rfl (zX_gr (p := 10) (b := 149) d_253_7 ow_253 gf_10_7 zo_148 (zr_10_0 hL zo_148) rfl (zX_bi (p := 12) d_253_10 cb_56 rfl (zX_iac (p := 13) d_253_12 za_149 rfl zin_56_2064 zi_56 ?_)))
  refine zX_cne (p1 := 56) (p2 := 16) d_253_13 (by decide) rfl ?_ ?_
  · refine zX_ic (p := 57) d_253_56 ci_0 rfl ?_
    exact zX_retib d_253_57 rt_253 (Or.inl rfl)
  · refine zX_aln0 (p := 17) d_253_16 rfl (zX_iln1 (p := 18) d_253_17 rfl (zX_ic (p := 19) d_253_18 ci_4 rfl (zX_cV2i (p := 22) ⟨ow_221, by decide⟩ zo_148 d_253_19 ow_253 rs_10_355 kk_221 rfl (s221 hL) rfl rfl rfl rfl (fun v2 => ?_))))
    refine zX_aln0 (p := 23) d_253_22 rfl (zX_gr (p := 26) (b := 149) d_253_23 ow_253 gf_10_7 zo_148 (zr_10_0 hL zo_148) rfl (zX_bi (p := 28) d_253_26 cb_57 rfl (zX_iac (p := 29) d_253_28 za_149 rfl zin_57_2064 zi_57 ?_)))
    refine zX_cne (p1 := 56) (p2 := 32) d_253_29 (by decide) rfl ?_ ?_
    · refine zX_ic (p := 57) d_253_56 ci_0 rfl ?_
      exact zX_retib d_253_57 rt_253 (Or.inl rfl)
    · refine zX_aln0 (p := 33) d_253_32 rfl (zX_iln1 (p := 34) d_253_33 rfl (zX_ic (p := 35) d_253_34 ci_1 rfl (zX_cV2i (p := 38) ⟨ow_221, by decide⟩ zo_148 d_253_35 ow_253 rs_10_355 kk_221 rfl (s221 hL) rfl rfl rfl rfl (fun v3 => ?_))))
      refine zX_bi (p := 40) d_253_38 cb_24 rfl ?_
      refine zX_cgt (p1 := 56) (p2 := 43) d_253_40 (by decide) rfl ?_ ?_
      · refine zX_ic (p := 57) d_253_56 ci_0 rfl ?_
        exact zX_retib d_253_57 rt_253 (Or.inl rfl)
      · refine zX_aln0 (p := 44) d_253_43 rfl (zX_iln1 (p := 45) d_253_44 rfl (zX_iln2 (p := 46) d_253_45 rfl (zX_cV2i (p := 49) ⟨ow_223, by decide⟩ zo_148 d_253_46 ow_253 rs_10_386 kk_223 rfl (s223 hL) rfl rfl rfl rfl (fun v4 => ?_))))
        refine zX_zeq (p1 := 56) (p2 := 52) d_253_49 (by decide) rfl ?_ ?_
        · refine zX_ic (p := 57) d_253_56 ci_0 rfl ?_
          exact zX_retib d_253_57 rt_253 (Or.inl rfl)
        · refine zX_ic (p := 53) d_253_52 ci_1 rfl (zX_goto (p := 57) d_253_53 (by decide) ?_)
          exact zX_retib d_253_57 rt_253 (Or.inr rfl)

theorem s252_l5 {q : ZQ} {d : Nat} (hL : zLay q) {a1 : Int32} {a2 : Int32} {M : ZI} : ∀ (n : Nat) (x1 : Int32) (x2 : Int32), zX q (d + 3) 252 5 [.val (.ref 148), .val (.int a1), .val (.int a2), .val (.int x1), .val (.int x2)] [] M (f252_l5 a1 a2 M n x1 x2) (zEj q (d + 3) 252 51 (fun (b : Int32) (s : Slot) => [.val (.ref 148), .val (.int a1), .val (.int a2), .val (.int b), s]) (fun b => []) (fun b => M)) := by
  intro n
  induction n with
  | zero => intros; exact zX_none
  | succ n ih =>
    intro x1 x2
    rw [f252_l5]
    refine zX_il4 (p := 7) d_252_5 rfl (zX_ic (p := 8) d_252_7 ci_1 rfl (zX_aln0 (p := 9) d_252_8 rfl (zX_gr (p := 12) (b := 149) d_252_9 ow_252 gf_10_7 zo_148 (zr_10_0 hL zo_148) rfl (zX_bi (p := 14) d_252_12 cb_52 rfl (zX_iac (p := 15) d_252_14 za_149 rfl zin_52_2064 zi_52 (zX_shl (p := 16) d_252_15 rfl ?_))))))
    refine zX_cge (p1 := 51) (p2 := 19) d_252_16 (by decide) rfl ?_ ?_
    · exact zX_leaf (fun _ _ h => h (.val (.int x2)))
    · refine zX_iln3 (p := 20) d_252_19 rfl (zX_il4 (p := 22) d_252_20 rfl (zX_iln2 (p := 23) d_252_22 rfl (zX_and (p := 24) d_252_23 rfl (zX_iln2 (p := 25) d_252_24 rfl ?_))))
      refine zX_cne (p1 := 42) (p2 := 28) d_252_25 (by decide) rfl ?_ ?_
      · refine zX_ic (p := 43) d_252_42 ci_0 rfl (zX_add (p := 44) d_252_43 rfl (zX_jsn3 (p := 45) d_252_44 rfl (fun x3 => ?_)))
        refine zX_ii4 (p := 48) d_252_45 ci_1 rfl (zX_goto (p := 5) d_252_48 (by decide) ?_)
        exact ih x3 (x2 + (1 : Int32))
      · refine zX_aln0 (p := 29) d_252_28 rfl (zX_il4 (p := 31) d_252_29 rfl (zX_iln1 (p := 32) d_252_31 rfl (zX_cV2i (p := 35) ⟨ow_253, by decide⟩ zo_148 d_252_32 ow_252 rs_10_408 kk_253 rfl (s253 hL) rfl rfl rfl rfl (fun v4 => ?_))))
        refine zX_zeq (p1 := 42) (p2 := 38) d_252_35 (by decide) rfl ?_ ?_
        · refine zX_ic (p := 43) d_252_42 ci_0 rfl (zX_add (p := 44) d_252_43 rfl (zX_jsn3 (p := 45) d_252_44 rfl (fun x5 => ?_)))
          refine zX_ii4 (p := 48) d_252_45 ci_1 rfl (zX_goto (p := 5) d_252_48 (by decide) ?_)
          exact ih x5 (x2 + (1 : Int32))
        · refine zX_ic (p := 39) d_252_38 ci_1 rfl (zX_goto (p := 43) d_252_39 (by decide) (zX_add (p := 44) d_252_43 rfl (zX_jsn3 (p := 45) d_252_44 rfl (fun x6 => ?_))))
          refine zX_ii4 (p := 48) d_252_45 ci_1 rfl (zX_goto (p := 5) d_252_48 (by decide) ?_)
          exact ih x6 (x2 + (1 : Int32))

theorem s252 {q : ZQ} {d : Nat} (hL : zLay q) {a1 : Int32} {a2 : Int32} {M : ZI} : zX q (d + 3) 252 0 [.val (.ref 148), .val (.int a1), .val (.int a2), .unset, .unset] [] M (f252_fitsWith a1 a2 M) (zEi M) := by
  unfold f252_fitsWith
  refine zX_ic (p := 1) d_252_0 ci_0 rfl (zX_isn3 (p := 2) d_252_1 rfl (zX_ic (p := 3) d_252_2 ci_0 rfl (zX_is4 (p := 5) d_252_3 rfl ?_)))
  refine zX_bind (s252_l5 hL zfu (0 : Int32) (0 : Int32)) ?_
  rintro x7 s8
  try dsimp only
  refine zX_iln3 (p := 52) d_252_51 rfl ?_
  exact zX_reti d_252_52 rt_252

theorem s251_l32 {q : ZQ} {d : Nat} (hL : zLay q) {a1 : Int32} {a2 : Int32} {M : ZI} : ∀ (n : Nat) (x3 : Int32), zX q (d + 4) 251 32 [.val (.ref 148), .val (.int a1), .val (.int a2), .val (.int x3)] [] M (f251_l32 a1 M n x3) (zEi M) := by
  intro n
  induction n with
  | zero => intros; exact zX_none
  | succ n ih =>
    intro x3
    rw [f251_l32]
    refine zX_iln3 (p := 33) d_251_32 rfl (zX_ic (p := 34) d_251_33 ci_1 rfl (zX_aln0 (p := 35) d_251_34 rfl (zX_gr (p := 38) (b := 149) d_251_35 ow_251 gf_10_7 zo_148 (zr_10_0 hL zo_148) rfl (zX_bi (p := 40) d_251_38 cb_52 rfl (zX_iac (p := 41) d_251_40 za_149 rfl zin_52_2064 zi_52 (zX_shl (p := 42) d_251_41 rfl ?_))))))
    refine zX_cge (p1 := 62) (p2 := 45) d_251_42 (by decide) rfl ?_ ?_
    · refine zX_ic (p := 63) d_251_62 ci_m1 rfl ?_
      exact zX_reti d_251_63 rt_251
    · refine zX_aln0 (p := 46) d_251_45 rfl (zX_iln3 (p := 47) d_251_46 rfl (zX_iln1 (p := 48) d_251_47 rfl (zX_cV2i (p := 51) ⟨ow_253, by decide⟩ zo_148 d_251_48 ow_251 rs_10_408 kk_253 rfl (s253 hL) rfl rfl rfl rfl (fun v4 => ?_))))
      refine zX_zeq (p1 := 56) (p2 := 54) d_251_51 (by decide) rfl ?_ ?_
      · refine zX_ii3 (p := 59) d_251_56 ci_1 rfl (zX_goto (p := 32) d_251_59 (by decide) ?_)
        exact ih (x3 + (1 : Int32))
      · refine zX_iln3 (p := 55) d_251_54 rfl ?_
        exact zX_reti d_251_55 rt_251

theorem s251 {q : ZQ} {d : Nat} (hL : zLay q) {a1 : Int32} {a2 : Int32} {M : ZI} : zX q (d + 4) 251 0 [.val (.ref 148), .val (.int a1), .val (.int a2), .unset] [] M (f251_fits a1 a2 M) (zEi M) := by
  unfold f251_fits
  refine zX_aln0 (p := 1) d_251_0 rfl (zX_iln1 (p := 2) d_251_1 rfl (zX_cV1i (p := 5) ⟨ow_152, by decide⟩ zo_148 d_251_2 ow_251 rs_10_65 kk_152 rfl (s152 hL) rfl rfl rfl rfl (fun v1 => ?_)))
  refine zX_zeq (p1 := 17) (p2 := 8) d_251_5 (by decide) rfl ?_ ?_
  · refine zX_ic (p := 18) d_251_17 ci_m1 rfl ?_
    exact zX_reti d_251_18 rt_251
  · refine zX_iln2 (p := 9) d_251_8 rfl (zX_ic (p := 10) d_251_9 ci_0 rfl (zX_ic (p := 11) d_251_10 ci_1 rfl (zX_cS3i (p := 14) d_251_11 ow_251 rs_10_53 kk_149 rfl (s149 hL) rfl rfl rfl rfl (fun v2 => ?_))))
    refine zX_zne (p1 := 19) (p2 := 17) d_251_14 (by decide) rfl ?_ ?_
    · refine zX_iln2 (p := 20) d_251_19 rfl ?_
      refine zX_zne (p1 := 30) (p2 := 23) d_251_20 (by decide) rfl ?_ ?_
      · refine zX_ic (p := 31) d_251_30 ci_0 rfl (zX_isn3 (p := 32) d_251_31 rfl ?_)
        exact s251_l32 hL zfu (0 : Int32)
      · refine zX_aln0 (p := 24) d_251_23 rfl (zX_iln1 (p := 25) d_251_24 rfl (zX_ic (p := 26) d_251_25 ci_0 rfl (zX_cV2i (p := 29) ⟨ow_252, by decide⟩ zo_148 d_251_26 ow_251 rs_10_411 kk_252 rfl (s252 hL) rfl rfl rfl rfl (fun v5 => ?_))))
        exact zX_reti d_251_29 rt_251
    · refine zX_ic (p := 18) d_251_17 ci_m1 rfl ?_
      exact zX_reti d_251_18 rt_251

theorem s254_l4 {q : ZQ} {d : Nat} (hL : zLay q) {M : ZI} : ∀ (n : Nat) (x1 : Int32) (x2 : Int32), zX q (d + 5) 254 4 [.val (.ref 148), .val (.int x1), .val (.int x2)] [] M (f254_l4 M n x1 x2) (zEj q (d + 5) 254 41 (fun (b : Int32) (s : Slot) => [.val (.ref 148), .val (.int b), s]) (fun b => []) (fun b => M)) := by
  intro n
  induction n with
  | zero => intros; exact zX_none
  | succ n ih =>
    intro x1 x2
    rw [f254_l4]
    refine zX_iln2 (p := 5) d_254_4 rfl (zX_aln0 (p := 6) d_254_5 rfl (zX_gr (p := 9) (b := 149) d_254_6 ow_254 gf_10_7 zo_148 (zr_10_0 hL zo_148) rfl (zX_bi (p := 11) d_254_9 cb_48 rfl (zX_iac (p := 12) d_254_11 za_149 rfl zin_48_2064 zi_48 ?_))))
    refine zX_cge (p1 := 41) (p2 := 15) d_254_12 (by decide) rfl ?_ ?_
    · exact zX_leaf (fun _ _ h => h (.val (.int x2)))
    · refine zX_iln1 (p := 16) d_254_15 rfl (zX_aln0 (p := 17) d_254_16 rfl (zX_iln2 (p := 18) d_254_17 rfl (zX_ic (p := 19) d_254_18 ci_1 rfl (zX_cV2i (p := 22) ⟨ow_251, by decide⟩ zo_148 d_254_19 ow_254 rs_10_414 kk_251 rfl (s251 hL) rfl rfl rfl rfl (fun v3 => ?_)))))
      refine zX_ic (p := 23) d_254_22 ci_m1 rfl ?_
      refine zX_ceq (p1 := 32) (p2 := 26) d_254_23 (by decide) rfl ?_ ?_
      · refine zX_ic (p := 33) d_254_32 ci_0 rfl (zX_or (p := 34) d_254_33 rfl (zX_jsn1 (p := 35) d_254_34 rfl (fun x4 => ?_)))
        refine zX_ii2 (p := 38) d_254_35 ci_1 rfl (zX_goto (p := 4) d_254_38 (by decide) ?_)
        exact ih x4 (x2 + (1 : Int32))
      · refine zX_ic (p := 27) d_254_26 ci_1 rfl (zX_iln2 (p := 28) d_254_27 rfl (zX_shl (p := 29) d_254_28 rfl (zX_goto (p := 33) d_254_29 (by decide) (zX_or (p := 34) d_254_33 rfl (zX_jsn1 (p := 35) d_254_34 rfl (fun x5 => ?_))))))
        refine zX_ii2 (p := 38) d_254_35 ci_1 rfl (zX_goto (p := 4) d_254_38 (by decide) ?_)
        exact ih x5 (x2 + (1 : Int32))

theorem s254 {q : ZQ} {d : Nat} (hL : zLay q) {M : ZI} : zX q (d + 5) 254 0 [.val (.ref 148), .unset, .unset] [] M (f254_thieves M) (zEi M) := by
  unfold f254_thieves
  refine zX_ic (p := 1) d_254_0 ci_0 rfl (zX_isn1 (p := 2) d_254_1 rfl (zX_ic (p := 3) d_254_2 ci_0 rfl (zX_isn2 (p := 4) d_254_3 rfl ?_)))
  refine zX_bind (s254_l4 hL zfu (0 : Int32) (0 : Int32)) ?_
  rintro x6 s7
  try dsimp only
  refine zX_iln1 (p := 42) d_254_41 rfl ?_
  exact zX_reti d_254_42 rt_254

theorem s255_l27 {q : ZQ} {d : Nat} (hL : zLay q) {a1 : Int32} {M : ZI} {v2 : Int32} : ∀ (n : Nat) (x3 : Int32) (x4 : Int32) (x5 : Int32) (s6 : Slot), zX q (d + 4) 255 27 [.val (.ref 148), .val (.int a1), .val (.int v2), .val (.int x3), .val (.int x4), .val (.int x5), s6] [] M (f255_l27 a1 M v2 n x3 x4 x5) (zEj q (d + 4) 255 92 (fun (b : Int32) (s : Slot × Slot × Slot) => [.val (.ref 148), .val (.int a1), .val (.int v2), .val (.int b), s.1, s.2.1, s.2.2]) (fun b => []) (fun b => M)) := by
  intro n
  induction n with
  | zero => intros; exact zX_none
  | succ n ih =>
    intro x3 x4 x5 s6
    rw [f255_l27]
    refine zX_il5 (p := 29) d_255_27 rfl (zX_aln0 (p := 30) d_255_29 rfl (zX_gr (p := 33) (b := 149) d_255_30 ow_255 gf_10_7 zo_148 (zr_10_0 hL zo_148) rfl (zX_bi (p := 35) d_255_33 cb_52 rfl (zX_iac (p := 36) d_255_35 za_149 rfl zin_52_2064 zi_52 ?_))))
    refine zX_cge (p1 := 92) (p2 := 39) d_255_36 (by decide) rfl ?_ ?_
    · exact zX_leaf (fun _ _ h => h (.val (.int x4), .val (.int x5), s6))
    · refine zX_iln2 (p := 40) d_255_39 rfl (zX_ic (p := 41) d_255_40 ci_1 rfl ?_)
      refine zX_cle (p1 := 92) (p2 := 44) d_255_41 (by decide) rfl ?_ ?_
      · exact zX_leaf (fun _ _ h => h (.val (.int x4), .val (.int x5), s6))
      · refine zX_aln0 (p := 45) d_255_44 rfl (zX_iln1 (p := 46) d_255_45 rfl (zX_ic (p := 47) d_255_46 ci_1 rfl (zX_il5 (p := 49) d_255_47 rfl (zX_shl (p := 50) d_255_49 rfl (zX_cV2i (p := 53) ⟨ow_252, by decide⟩ zo_148 d_255_50 ow_255 rs_10_411 kk_252 rfl (s252 hL) rfl rfl rfl rfl (fun v7 => ?_))))))
        refine zX_is6 (p := 55) d_255_53 rfl (zX_il6 (p := 57) d_255_55 rfl (zX_iln2 (p := 58) d_255_57 rfl (zX_il6 (p := 60) d_255_58 rfl (zX_sub (p := 61) d_255_60 rfl (zX_cS2i (p := 64) d_255_61 ow_255 rs_10_320 kk_213 rfl (s213 hL) rfl rfl rfl rfl (fun v8 => ?_))))))
        refine zX_il4 (p := 66) d_255_64 rfl ?_
        refine zX_clt (p1 := 72) (p2 := 69) d_255_66 (by decide) rfl ?_ ?_
        · refine zX_il6 (p := 74) d_255_72 rfl (zX_iln2 (p := 75) d_255_74 rfl (zX_il6 (p := 77) d_255_75 rfl (zX_sub (p := 78) d_255_77 rfl (zX_cS2i (p := 81) d_255_78 ow_255 rs_10_320 kk_213 rfl (s213 hL) rfl rfl rfl rfl (fun v9 => ?_)))))
          refine zX_is4 (p := 83) d_255_81 rfl (zX_il5 (p := 85) d_255_83 rfl (zX_isn3 (p := 86) d_255_85 rfl (zX_ii5 (p := 89) d_255_86 ci_1 rfl (zX_goto (p := 27) d_255_89 (by decide) ?_))))
          exact ih x5 v9 (x5 + (1 : Int32)) (.val (.int v7))
        · refine zX_goto (p := 86) d_255_69 (by decide) (zX_ii5 (p := 89) d_255_86 ci_1 rfl (zX_goto (p := 27) d_255_89 (by decide) ?_))
          exact ih x3 x4 (x5 + (1 : Int32)) (.val (.int v7))

theorem s255 {q : ZQ} {d : Nat} (hL : zLay q) {a1 : Int32} {M : ZI} : zX q (d + 4) 255 0 [.val (.ref 148), .val (.int a1), .unset, .unset, .unset, .unset, .unset] [] M (f255_lookAt a1 M) (zEi M) := by
  unfold f255_lookAt
  refine zX_aln0 (p := 1) d_255_0 rfl (zX_iln1 (p := 2) d_255_1 rfl (zX_cV1i (p := 5) ⟨ow_152, by decide⟩ zo_148 d_255_2 ow_255 rs_10_65 kk_152 rfl (s152 hL) rfl rfl rfl rfl (fun v1 => ?_)))
  refine zX_zne (p1 := 10) (p2 := 8) d_255_5 (by decide) rfl ?_ ?_
  · refine zX_aln0 (p := 11) d_255_10 rfl (zX_iln1 (p := 12) d_255_11 rfl (zX_ic (p := 13) d_255_12 ci_0 rfl (zX_cV2i (p := 16) ⟨ow_252, by decide⟩ zo_148 d_255_13 ow_255 rs_10_411 kk_252 rfl (s252 hL) rfl rfl rfl rfl (fun v2 => ?_))))
    refine zX_isn2 (p := 17) d_255_16 rfl (zX_ic (p := 18) d_255_17 ci_m1 rfl (zX_isn3 (p := 19) d_255_18 rfl (zX_ldcw (p := 22) d_255_19 ow_255 kn_10_395 rfl (zX_is4 (p := 24) d_255_22 rfl (zX_ic (p := 25) d_255_24 ci_0 rfl (zX_is5 (p := 27) d_255_25 rfl ?_))))))
    refine zX_bind (s255_l27 hL zfu (-1 : Int32) (100000 : Int32) (0 : Int32) (.unset)) ?_
    rintro x10 ⟨s11, s12, s13⟩
    try dsimp only
    refine zX_iln3 (p := 93) d_255_92 rfl ?_
    exact zX_reti d_255_93 rt_255
  · refine zX_ic (p := 9) d_255_8 ci_m1 rfl ?_
    exact zX_reti d_255_9 rt_255

theorem s257 {q : ZQ} {d : Nat} (hL : zLay q) {a0 : Int32} {a1 : Int32} {a2 : Int32} {M : ZI} : zX q (d + 1) 257 0 [.val (.int a0), .val (.int a1), .val (.int a2)] [] M (f257_ownOf a0 a1 a2) (zEi M) := by
  unfold f257_ownOf
  refine zX_iln1 (p := 1) d_257_0 rfl (zX_ic (p := 2) d_257_1 ci_0 rfl (zX_iln0 (p := 3) d_257_2 rfl (zX_iln2 (p := 4) d_257_3 rfl (zX_sub (p := 5) d_257_4 rfl (zX_cS2i (p := 8) d_257_5 ow_257 rs_10_320 kk_213 rfl (s213 hL) rfl rfl rfl rfl (fun v1 => ?_))))))
  refine zX_cS2i (p := 11) d_257_8 ow_257 rs_10_317 kk_202 rfl (s202 hL) rfl rfl rfl rfl (fun v2 => ?_)
  exact zX_reti d_257_11 rt_257

theorem s256 {q : ZQ} {d : Nat} (hL : zLay q) {a1 : Int32} {a2 : Int32} {a3 : Int32} {M : ZI} : zX q (d + 2) 256 0 [.val (.ref 148), .val (.int a1), .val (.int a2), .val (.int a3), .unset, .unset, .unset, .unset] [] M (f256_share a1 a2 a3 M) (zEi M) := by
  unfold f256_share
  refine zX_iln1 (p := 1) d_256_0 rfl (zX_ic (p := 2) d_256_1 ci_0 rfl (zX_bi (p := 4) d_256_2 cb_48 rfl (zX_cS3i (p := 7) d_256_4 ow_256 rs_10_53 kk_149 rfl (s149 hL) rfl rfl rfl rfl (fun v1 => ?_))))
  refine zX_zeq (p1 := 29) (p2 := 10) d_256_7 (by decide) rfl ?_ ?_
  · refine zX_ic (p := 30) d_256_29 ci_m1 rfl ?_
    exact zX_reti d_256_30 rt_256
  · refine zX_iln2 (p := 11) d_256_10 rfl (zX_ic (p := 12) d_256_11 ci_0 rfl (zX_bi (p := 14) d_256_12 cb_48 rfl (zX_cS3i (p := 17) d_256_14 ow_256 rs_10_53 kk_149 rfl (s149 hL) rfl rfl rfl rfl (fun v2 => ?_))))
    refine zX_zeq (p1 := 29) (p2 := 20) d_256_17 (by decide) rfl ?_ ?_
    · refine zX_ic (p := 30) d_256_29 ci_m1 rfl ?_
      exact zX_reti d_256_30 rt_256
    · refine zX_iln3 (p := 21) d_256_20 rfl (zX_ic (p := 22) d_256_21 ci_0 rfl (zX_ic (p := 23) d_256_22 ci_1 rfl (zX_cS3i (p := 26) d_256_23 ow_256 rs_10_53 kk_149 rfl (s149 hL) rfl rfl rfl rfl (fun v3 => ?_))))
      refine zX_zne (p1 := 31) (p2 := 29) d_256_26 (by decide) rfl ?_ ?_
      · refine zX_aln0 (p := 32) d_256_31 rfl (zX_cV0i (p := 35) ⟨ow_219, by decide⟩ zo_148 d_256_32 ow_256 rs_10_349 kk_219 rfl (s219 hL) rfl rfl rfl rfl (fun v4 => ?_))
        refine zX_is4 (p := 37) d_256_35 rfl (zX_iln1 (p := 38) d_256_37 rfl (zX_iln2 (p := 39) d_256_38 rfl (zX_add (p := 40) d_256_39 rfl (zX_il4 (p := 42) d_256_40 rfl ?_))))
        refine zX_cgt (p1 := 59) (p2 := 45) d_256_42 (by decide) rfl ?_ ?_
        · refine zX_il4 (p := 61) d_256_59 rfl (zX_iln1 (p := 62) d_256_61 rfl (zX_iln2 (p := 63) d_256_62 rfl (zX_cS3i (p := 66) d_256_63 ow_256 rs_10_417 kk_257 rfl (s257 hL) rfl rfl rfl rfl (fun v5 => ?_))))
          refine zX_is5 (p := 68) d_256_66 rfl (zX_il4 (p := 70) d_256_68 rfl (zX_iln2 (p := 71) d_256_70 rfl (zX_iln1 (p := 72) d_256_71 rfl (zX_cS3i (p := 75) d_256_72 ow_256 rs_10_417 kk_257 rfl (s257 hL) rfl rfl rfl rfl (fun v6 => ?_)))))
          refine zX_is6 (p := 77) d_256_75 rfl (zX_il4 (p := 79) d_256_77 rfl (zX_il5 (p := 81) d_256_79 rfl (zX_sub (p := 82) d_256_81 rfl (zX_il6 (p := 84) d_256_82 rfl (zX_sub (p := 85) d_256_84 rfl (zX_js7 (p := 87) d_256_85 rfl (fun x7 => ?_)))))))
          refine zX_iln3 (p := 88) d_256_87 rfl ?_
          refine zX_zne (p1 := 107) (p2 := 91) d_256_88 (by decide) rfl ?_ ?_
          · refine zX_ic (p := 108) d_256_107 ci_2 rfl (zX_iln2 (p := 109) d_256_108 rfl (zX_mul (p := 110) d_256_109 rfl (zX_ic (p := 111) d_256_110 ci_2 rfl (zX_il6 (p := 113) d_256_111 rfl (zX_mul (p := 114) d_256_113 rfl (zX_il7 (p := 116) d_256_114 rfl (zX_add (p := 117) d_256_116 rfl ?_)))))))
            refine zX_cS2i (p := 120) d_256_117 ow_256 rs_10_317 kk_202 rfl (s202 hL) rfl rfl rfl rfl (fun v8 => ?_)
            exact zX_reti d_256_120 rt_256
          · refine zX_ic (p := 92) d_256_91 ci_2 rfl (zX_iln1 (p := 93) d_256_92 rfl (zX_mul (p := 94) d_256_93 rfl (zX_ic (p := 95) d_256_94 ci_2 rfl (zX_il5 (p := 97) d_256_95 rfl (zX_mul (p := 98) d_256_97 rfl (zX_il7 (p := 100) d_256_98 rfl (zX_add (p := 101) d_256_100 rfl ?_)))))))
            refine zX_cS2i (p := 104) d_256_101 ow_256 rs_10_317 kk_202 rfl (s202 hL) rfl rfl rfl rfl (fun v9 => ?_)
            refine zX_goto (p := 120) d_256_104 (by decide) ?_
            exact zX_reti d_256_120 rt_256
        · refine zX_iln3 (p := 46) d_256_45 rfl ?_
          refine zX_zne (p1 := 55) (p2 := 49) d_256_46 (by decide) rfl ?_ ?_
          · refine zX_ic (p := 56) d_256_55 ci_2 rfl (zX_iln2 (p := 57) d_256_56 rfl (zX_mul (p := 58) d_256_57 rfl ?_))
            exact zX_reti d_256_58 rt_256
          · refine zX_ic (p := 50) d_256_49 ci_2 rfl (zX_iln1 (p := 51) d_256_50 rfl (zX_mul (p := 52) d_256_51 rfl (zX_goto (p := 58) d_256_52 (by decide) ?_)))
            exact zX_reti d_256_58 rt_256
      · refine zX_ic (p := 30) d_256_29 ci_m1 rfl ?_
        exact zX_reti d_256_30 rt_256

theorem s258 {q : ZQ} {d : Nat} (hL : zLay q) {a1 : Int32} {a2 : Int32} {M : ZI} : zX q (d + 2) 258 0 [.val (.ref 148), .val (.int a1), .val (.int a2)] [] M (f258_bid a1 a2 M) zEm := by
  unfold f258_bid
  refine zX_iln1 (p := 1) d_258_0 rfl (zX_ic (p := 2) d_258_1 ci_m1 rfl ?_)
  refine zX_cne (p1 := 15) (p2 := 5) d_258_2 (by decide) rfl ?_ ?_
  · refine zX_aln0 (p := 16) d_258_15 rfl (zX_iln1 (p := 17) d_258_16 rfl (zX_cV1i (p := 20) ⟨ow_152, by decide⟩ zo_148 d_258_17 ow_258 rs_10_65 kk_152 rfl (s152 hL) rfl rfl rfl rfl (fun v1 => ?_)))
    refine zX_zeq (p1 := 46) (p2 := 23) d_258_20 (by decide) rfl ?_ ?_
    · refine zX_ic (p := 47) d_258_46 ci_m1 rfl ?_
      exact zX_retm d_258_47 rt_258
    · refine zX_iln2 (p := 24) d_258_23 rfl (zX_ic (p := 25) d_258_24 ci_0 rfl (zX_si (p := 28) d_258_25 cs_9999 rfl (zX_cS3i (p := 31) d_258_28 ow_258 rs_10_53 kk_149 rfl (s149 hL) rfl rfl rfl rfl (fun v2 => ?_))))
      refine zX_zeq (p1 := 46) (p2 := 34) d_258_31 (by decide) rfl ?_ ?_
      · refine zX_ic (p := 47) d_258_46 ci_m1 rfl ?_
        exact zX_retm d_258_47 rt_258
      · refine zX_aln0 (p := 35) d_258_34 rfl (zX_gr (p := 38) (b := 149) d_258_35 ow_258 gf_10_7 zo_148 (zr_10_0 hL zo_148) rfl (zX_bi (p := 40) d_258_38 cb_55 rfl (zX_iac (p := 41) d_258_40 za_149 rfl zin_55_2064 zi_55 (zX_bi (p := 43) d_258_41 cb_8 rfl ?_))))
        refine zX_cne (p1 := 48) (p2 := 46) d_258_43 (by decide) rfl ?_ ?_
        · refine zX_aln0 (p := 49) d_258_48 rfl (zX_gr (p := 52) (b := 149) d_258_49 ow_258 gf_10_7 zo_148 (zr_10_0 hL zo_148) rfl (zX_si (p := 55) d_258_52 cs_562 rfl (zX_ic (p := 56) d_258_55 ci_2 rfl (zX_aln0 (p := 57) d_258_56 rfl (zX_gr (p := 60) (b := 149) d_258_57 ow_258 gf_10_7 zo_148 (zr_10_0 hL zo_148) rfl (zX_bi (p := 62) d_258_60 cb_55 rfl (zX_iac (p := 63) d_258_62 za_149 rfl zin_55_2064 zi_55 ?_)))))))
          refine zX_mul (p := 64) d_258_63 rfl (zX_add (p := 65) d_258_64 rfl (zX_iln1 (p := 66) d_258_65 rfl (zX_itg (p := 67) d_258_66 za_149 rfl (fun M3 => ?_))))
          refine zX_aln0 (p := 68) d_258_67 rfl (zX_gr (p := 71) (b := 149) d_258_68 ow_258 gf_10_7 zo_148 (zr_10_0 hL zo_148) rfl (zX_si (p := 74) d_258_71 cs_562 rfl (zX_ic (p := 75) d_258_74 ci_2 rfl (zX_aln0 (p := 76) d_258_75 rfl (zX_gr (p := 79) (b := 149) d_258_76 ow_258 gf_10_7 zo_148 (zr_10_0 hL zo_148) rfl (zX_bi (p := 81) d_258_79 cb_55 rfl (zX_iac (p := 82) d_258_81 za_149 rfl zin_55_2064 zi_55 ?_)))))))
          refine zX_mul (p := 83) d_258_82 rfl (zX_add (p := 84) d_258_83 rfl (zX_ic (p := 85) d_258_84 ci_1 rfl (zX_add (p := 86) d_258_85 rfl (zX_iln2 (p := 87) d_258_86 rfl (zX_itg (p := 88) d_258_87 za_149 rfl (fun M4 => ?_))))))
          refine zX_aln0 (p := 89) d_258_88 rfl (zX_gr (p := 92) (b := 149) d_258_89 ow_258 gf_10_7 zo_148 (zr_10_0 hL zo_148) rfl (zX_bi (p := 94) d_258_92 cb_55 rfl (zX_dup2 (p := 95) d_258_94 rfl rfl rfl (zX_iac (p := 96) d_258_95 za_149 rfl zin_55_2064 zi_55 (zX_ic (p := 97) d_258_96 ci_1 rfl (zX_add (p := 98) d_258_97 rfl (zX_itc (p := 99) d_258_98 za_149 rfl zin_55_2064 zi_55 (fun M5 => ?_))))))))
          refine zX_aln0 (p := 100) d_258_99 rfl (zX_gr (p := 103) (b := 149) d_258_100 ow_258 gf_10_7 zo_148 (zr_10_0 hL zo_148) rfl (zX_bi (p := 105) d_258_103 cb_55 rfl (zX_iac (p := 106) d_258_105 za_149 rfl zin_55_2064 zi_55 ?_)))
          exact zX_retm d_258_106 rt_258
        · refine zX_ic (p := 47) d_258_46 ci_m1 rfl ?_
          exact zX_retm d_258_47 rt_258
  · refine zX_aln0 (p := 6) d_258_5 rfl (zX_gr (p := 9) (b := 149) d_258_6 ow_258 gf_10_7 zo_148 (zr_10_0 hL zo_148) rfl (zX_bi (p := 11) d_258_9 cb_55 rfl (zX_ic (p := 12) d_258_11 ci_0 rfl (zX_itc (p := 13) d_258_12 za_149 rfl zin_55_2064 zi_55 (fun M6 => ?_)))))
    refine zX_ic (p := 14) d_258_13 ci_0 rfl ?_
    exact zX_retm d_258_14 rt_258

theorem s259_l25 {q : ZQ} {d : Nat} (hL : zLay q) {a1 : Int32} {M : ZI} : ∀ (n : Nat) (x2 : Int32) (x3 : Int32), zX q (d + 1) 259 25 [.val (.ref 148), .val (.int a1), .val (.int x2), .val (.int x3), .unset] [] M (f259_l25 M n x2 x3) (zEj q (d + 1) 259 75 (fun (b : Int32) (s : Slot) => [.val (.ref 148), .val (.int a1), .val (.int b), s, .unset]) (fun b => []) (fun b => M)) := by
  intro n
  induction n with
  | zero => intros; exact zX_none
  | succ n ih =>
    intro x2 x3
    rw [f259_l25]
    refine zX_iln3 (p := 26) d_259_25 rfl (zX_aln0 (p := 27) d_259_26 rfl (zX_gr (p := 30) (b := 149) d_259_27 ow_259 gf_10_7 zo_148 (zr_10_0 hL zo_148) rfl (zX_bi (p := 32) d_259_30 cb_55 rfl (zX_iac (p := 33) d_259_32 za_149 rfl zin_55_2064 zi_55 ?_))))
    refine zX_cge (p1 := 75) (p2 := 36) d_259_33 (by decide) rfl ?_ ?_
    · exact zX_leaf (fun _ _ h => h (.val (.int x3)))
    · refine zX_aln0 (p := 37) d_259_36 rfl (zX_gr (p := 40) (b := 149) d_259_37 ow_259 gf_10_7 zo_148 (zr_10_0 hL zo_148) rfl (zX_si (p := 43) d_259_40 cs_562 rfl (zX_ic (p := 44) d_259_43 ci_2 rfl (zX_iln3 (p := 45) d_259_44 rfl (zX_mul (p := 46) d_259_45 rfl (zX_add (p := 47) d_259_46 rfl (zX_ic (p := 48) d_259_47 ci_1 rfl ?_)))))))
      refine zX_add (p := 49) d_259_48 rfl (zX_iag (p := 50) d_259_49 za_149 rfl (zX_aln0 (p := 51) d_259_50 rfl (zX_gr (p := 54) (b := 149) d_259_51 ow_259 gf_10_7 zo_148 (zr_10_0 hL zo_148) rfl (zX_si (p := 57) d_259_54 cs_562 rfl (zX_ic (p := 58) d_259_57 ci_2 rfl (zX_iln2 (p := 59) d_259_58 rfl (zX_mul (p := 60) d_259_59 rfl ?_)))))))
      refine zX_add (p := 61) d_259_60 rfl (zX_ic (p := 62) d_259_61 ci_1 rfl (zX_add (p := 63) d_259_62 rfl (zX_iag (p := 64) d_259_63 za_149 rfl ?_)))
      refine zX_cle (p1 := 69) (p2 := 67) d_259_64 (by decide) rfl ?_ ?_
      · refine zX_ii3 (p := 72) d_259_69 ci_1 rfl (zX_goto (p := 25) d_259_72 (by decide) ?_)
        exact ih x2 (x3 + (1 : Int32))
      · refine zX_iln3 (p := 68) d_259_67 rfl (zX_isn2 (p := 69) d_259_68 rfl (zX_ii3 (p := 72) d_259_69 ci_1 rfl (zX_goto (p := 25) d_259_72 (by decide) ?_)))
        exact ih x3 (x3 + (1 : Int32))

theorem s259_l80 {q : ZQ} {d : Nat} (hL : zLay q) {a1 : Int32} {M : ZI} {x4 : Int32} : ∀ (n : Nat) (x6 : Int32) (x7 : Int32), zX q (d + 1) 259 80 [.val (.ref 148), .val (.int a1), .val (.int x4), .val (.int x6), .val (.int x7)] [] M (f259_l80 M x4 n x6 x7) (zEj q (d + 1) 259 128 (fun (b : Int32) (s : Slot) => [.val (.ref 148), .val (.int a1), .val (.int x4), .val (.int b), s]) (fun b => []) (fun b => M)) := by
  intro n
  induction n with
  | zero => intros; exact zX_none
  | succ n ih =>
    intro x6 x7
    rw [f259_l80]
    refine zX_il4 (p := 82) d_259_80 rfl (zX_aln0 (p := 83) d_259_82 rfl (zX_gr (p := 86) (b := 149) d_259_83 ow_259 gf_10_7 zo_148 (zr_10_0 hL zo_148) rfl (zX_bi (p := 88) d_259_86 cb_55 rfl (zX_iac (p := 89) d_259_88 za_149 rfl zin_55_2064 zi_55 ?_))))
    refine zX_cge (p1 := 128) (p2 := 92) d_259_89 (by decide) rfl ?_ ?_
    · exact zX_leaf (fun _ _ h => h (.val (.int x7)))
    · refine zX_il4 (p := 94) d_259_92 rfl (zX_iln2 (p := 95) d_259_94 rfl ?_)
      refine zX_cne (p1 := 102) (p2 := 98) d_259_95 (by decide) rfl ?_ ?_
      · refine zX_iln3 (p := 103) d_259_102 rfl (zX_aln0 (p := 104) d_259_103 rfl (zX_gr (p := 107) (b := 149) d_259_104 ow_259 gf_10_7 zo_148 (zr_10_0 hL zo_148) rfl (zX_si (p := 110) d_259_107 cs_562 rfl (zX_ic (p := 111) d_259_110 ci_2 rfl (zX_il4 (p := 113) d_259_111 rfl (zX_mul (p := 114) d_259_113 rfl (zX_add (p := 115) d_259_114 rfl ?_)))))))
        refine zX_ic (p := 116) d_259_115 ci_1 rfl (zX_add (p := 117) d_259_116 rfl (zX_iag (p := 118) d_259_117 za_149 rfl (zX_cS2i (p := 121) d_259_118 ow_259 rs_10_320 kk_213 rfl (s213 hL) rfl rfl rfl rfl (fun v8 => ?_))))
        refine zX_isn3 (p := 122) d_259_121 rfl (zX_ii4 (p := 125) d_259_122 ci_1 rfl (zX_goto (p := 80) d_259_125 (by decide) ?_))
        exact ih v8 (x7 + (1 : Int32))
      · refine zX_iln3 (p := 99) d_259_98 rfl (zX_goto (p := 121) d_259_99 (by decide) (zX_isn3 (p := 122) d_259_121 rfl (zX_ii4 (p := 125) d_259_122 ci_1 rfl (zX_goto (p := 80) d_259_125 (by decide) ?_))))
        exact ih x6 (x7 + (1 : Int32))

theorem s259 {q : ZQ} {d : Nat} (hL : zLay q) {a1 : Int32} {M : ZI} : zX q (d + 1) 259 0 [.val (.ref 148), .val (.int a1), .unset, .unset, .unset] [] M (f259_sold a1 M) (zEi M) := by
  unfold f259_sold
  refine zX_aln0 (p := 1) d_259_0 rfl (zX_gr (p := 4) (b := 149) d_259_1 ow_259 gf_10_7 zo_148 (zr_10_0 hL zo_148) rfl (zX_bi (p := 6) d_259_4 cb_55 rfl (zX_iac (p := 7) d_259_6 za_149 rfl zin_55_2064 zi_55 ?_)))
  refine zX_zeq (p1 := 19) (p2 := 10) d_259_7 (by decide) rfl ?_ ?_
  · refine zX_ic (p := 20) d_259_19 ci_m1 rfl ?_
    exact zX_reti d_259_20 rt_259
  · refine zX_iln1 (p := 11) d_259_10 rfl (zX_ic (p := 12) d_259_11 ci_0 rfl (zX_ic (p := 13) d_259_12 ci_1 rfl (zX_cS3i (p := 16) d_259_13 ow_259 rs_10_53 kk_149 rfl (s149 hL) rfl rfl rfl rfl (fun v1 => ?_))))
    refine zX_zne (p1 := 21) (p2 := 19) d_259_16 (by decide) rfl ?_ ?_
    · refine zX_ic (p := 22) d_259_21 ci_0 rfl (zX_isn2 (p := 23) d_259_22 rfl (zX_ic (p := 24) d_259_23 ci_1 rfl (zX_isn3 (p := 25) d_259_24 rfl ?_)))
      refine zX_bind (s259_l25 hL zfu (0 : Int32) (1 : Int32)) ?_
      rintro x4 s5
      try dsimp only
      refine zX_ic (p := 76) d_259_75 ci_0 rfl (zX_isn3 (p := 77) d_259_76 rfl (zX_ic (p := 78) d_259_77 ci_0 rfl (zX_is4 (p := 80) d_259_78 rfl ?_)))
      refine zX_bind (s259_l80 hL zfu (0 : Int32) (0 : Int32)) ?_
      rintro x9 s10
      try dsimp only
      refine zX_iln1 (p := 129) d_259_128 rfl ?_
      refine zX_zne (p1 := 147) (p2 := 132) d_259_129 (by decide) rfl ?_ ?_
      · refine zX_iln3 (p := 148) d_259_147 rfl ?_
        exact zX_reti d_259_148 rt_259
      · refine zX_aln0 (p := 133) d_259_132 rfl (zX_gr (p := 136) (b := 149) d_259_133 ow_259 gf_10_7 zo_148 (zr_10_0 hL zo_148) rfl (zX_si (p := 139) d_259_136 cs_562 rfl (zX_ic (p := 140) d_259_139 ci_2 rfl (zX_iln2 (p := 141) d_259_140 rfl (zX_mul (p := 142) d_259_141 rfl (zX_add (p := 143) d_259_142 rfl (zX_iag (p := 144) d_259_143 za_149 rfl ?_)))))))
        refine zX_goto (p := 148) d_259_144 (by decide) ?_
        exact zX_reti d_259_148 rt_259
    · refine zX_ic (p := 20) d_259_19 ci_m1 rfl ?_
      exact zX_reti d_259_20 rt_259

theorem s260 {q : ZQ} {d : Nat} (hL : zLay q) {a1 : Int32} {M : ZI} : zX q (d + 1) 260 0 [.val (.ref 148), .val (.int a1)] [] M (f260_rests a1 M) (zEi M) := by
  unfold f260_rests
  refine zX_iln1 (p := 1) d_260_0 rfl (zX_ic (p := 2) d_260_1 ci_1 rfl (zX_bi (p := 4) d_260_2 cb_24 rfl (zX_cS3i (p := 7) d_260_4 ow_260 rs_10_53 kk_149 rfl (s149 hL) rfl rfl rfl rfl (fun v1 => ?_))))
  refine zX_zne (p1 := 12) (p2 := 10) d_260_7 (by decide) rfl ?_ ?_
  · refine zX_ic (p := 13) d_260_12 ci_0 rfl (zX_aln0 (p := 14) d_260_13 rfl (zX_gr (p := 17) (b := 149) d_260_14 ow_260 gf_10_7 zo_148 (zr_10_0 hL zo_148) rfl (zX_bi (p := 19) d_260_17 cb_50 rfl (zX_iac (p := 20) d_260_19 za_149 rfl zin_50_2064 zi_50 (zX_aln0 (p := 21) d_260_20 rfl (zX_gr (p := 24) (b := 149) d_260_21 ow_260 gf_10_7 zo_148 (zr_10_0 hL zo_148) rfl (zX_ic (p := 25) d_260_24 ci_1 rfl ?_)))))))
    refine zX_iac (p := 26) d_260_25 za_149 rfl zin_1_2064 zi_1 (zX_sub (p := 27) d_260_26 rfl (zX_cS2i (p := 30) d_260_27 ow_260 rs_10_320 kk_213 rfl (s213 hL) rfl rfl rfl rfl (fun v2 => ?_)))
    refine zX_iln1 (p := 31) d_260_30 rfl (zX_add (p := 32) d_260_31 rfl (zX_ic (p := 33) d_260_32 ci_1 rfl (zX_sub (p := 34) d_260_33 rfl (zX_iln1 (p := 35) d_260_34 rfl (zX_divg (p := 36) d_260_35 rfl ?_)))))
    exact zX_reti d_260_36 rt_260
  · refine zX_ic (p := 11) d_260_10 ci_m1 rfl ?_
    exact zX_reti d_260_11 rt_260

theorem s261 {q : ZQ} {d : Nat} (hL : zLay q) {a1 : Int32} {a2 : Int32} {a3 : Int32} {a4 : Int32} {M : ZI} : zX q (d + 1) 261 0 [.val (.ref 148), .val (.int a1), .val (.int a2), .val (.int a3), .val (.int a4)] [] M (f261_weekday a1 a2 a3 a4) (zEi M) := by
  unfold f261_weekday
  refine zX_iln1 (p := 1) d_261_0 rfl (zX_ic (p := 2) d_261_1 ci_0 rfl (zX_si (p := 5) d_261_2 cs_364 rfl (zX_cS3i (p := 8) d_261_5 ow_261 rs_10_53 kk_149 rfl (s149 hL) rfl rfl rfl rfl (fun v1 => ?_))))
  refine zX_zeq (p1 := 43) (p2 := 11) d_261_8 (by decide) rfl ?_ ?_
  · refine zX_ic (p := 44) d_261_43 ci_m1 rfl ?_
    exact zX_reti d_261_44 rt_261
  · refine zX_iln2 (p := 12) d_261_11 rfl (zX_ic (p := 13) d_261_12 ci_0 rfl (zX_si (p := 16) d_261_13 cs_999 rfl (zX_cS3i (p := 19) d_261_16 ow_261 rs_10_53 kk_149 rfl (s149 hL) rfl rfl rfl rfl (fun v2 => ?_))))
    refine zX_zeq (p1 := 43) (p2 := 22) d_261_19 (by decide) rfl ?_ ?_
    · refine zX_ic (p := 44) d_261_43 ci_m1 rfl ?_
      exact zX_reti d_261_44 rt_261
    · refine zX_iln3 (p := 23) d_261_22 rfl (zX_ic (p := 24) d_261_23 ci_0 rfl (zX_ic (p := 25) d_261_24 ci_1 rfl (zX_cS3i (p := 28) d_261_25 ow_261 rs_10_53 kk_149 rfl (s149 hL) rfl rfl rfl rfl (fun v3 => ?_))))
      refine zX_zeq (p1 := 43) (p2 := 31) d_261_28 (by decide) rfl ?_ ?_
      · refine zX_ic (p := 44) d_261_43 ci_m1 rfl ?_
        exact zX_reti d_261_44 rt_261
      · refine zX_il4 (p := 33) d_261_31 rfl (zX_ic (p := 34) d_261_33 ci_0 rfl (zX_si (p := 37) d_261_34 cs_364 rfl (zX_cS3i (p := 40) d_261_37 ow_261 rs_10_53 kk_149 rfl (s149 hL) rfl rfl rfl rfl (fun v4 => ?_))))
        refine zX_zne (p1 := 45) (p2 := 43) d_261_40 (by decide) rfl ?_ ?_
        · refine zX_si (p := 48) d_261_45 cs_365 rfl (zX_iln2 (p := 49) d_261_48 rfl (zX_mul (p := 50) d_261_49 rfl (zX_iln1 (p := 51) d_261_50 rfl (zX_add (p := 52) d_261_51 rfl (zX_iln3 (p := 53) d_261_52 rfl (zX_iln2 (p := 54) d_261_53 rfl (zX_mul (p := 55) d_261_54 rfl ?_)))))))
          refine zX_add (p := 56) d_261_55 rfl (zX_iln1 (p := 57) d_261_56 rfl (zX_il4 (p := 59) d_261_57 rfl ?_))
          refine zX_clt (p1 := 66) (p2 := 62) d_261_59 (by decide) rfl ?_ ?_
          · refine zX_ic (p := 67) d_261_66 ci_0 rfl (zX_add (p := 68) d_261_67 rfl (zX_bi (p := 70) d_261_68 cb_7 rfl (zX_rem (p := 71) d_261_70 (by decide) rfl ?_)))
            exact zX_reti d_261_71 rt_261
          · refine zX_iln3 (p := 63) d_261_62 rfl (zX_goto (p := 67) d_261_63 (by decide) (zX_add (p := 68) d_261_67 rfl (zX_bi (p := 70) d_261_68 cb_7 rfl (zX_rem (p := 71) d_261_70 (by decide) rfl ?_))))
            exact zX_reti d_261_71 rt_261
        · refine zX_ic (p := 44) d_261_43 ci_m1 rfl ?_
          exact zX_reti d_261_44 rt_261

theorem s262_l50 {q : ZQ} {d : Nat} (hL : zLay q) {a1 : Int32} {a2 : Int32} {M : ZI} {x4 : Int32} {x5 : Int32} : ∀ (n : Nat) (x8 : Int32) (x9 : Int32), zX q (d + 2) 262 50 [.val (.ref 148), .val (.int a1), .val (.int a2), .val (.int x4), .val (.int x5), .val (.int x8), .val (.int x9)] [] M (f262_l50 M x4 n x8 x9) (zEj q (d + 2) 262 97 (fun (b : Int32) (s : Slot) => [.val (.ref 148), .val (.int a1), .val (.int a2), .val (.int x4), .val (.int x5), .val (.int b), s]) (fun b => []) (fun b => M)) := by
  intro n
  induction n with
  | zero => intros; exact zX_none
  | succ n ih =>
    intro x8 x9
    rw [f262_l50]
    refine zX_il6 (p := 52) d_262_50 rfl (zX_aln0 (p := 53) d_262_52 rfl (zX_gr (p := 56) (b := 149) d_262_53 ow_262 gf_10_7 zo_148 (zr_10_0 hL zo_148) rfl (zX_bi (p := 58) d_262_56 cb_48 rfl (zX_iac (p := 59) d_262_58 za_149 rfl zin_48_2064 zi_48 ?_))))
    refine zX_cge (p1 := 97) (p2 := 62) d_262_59 (by decide) rfl ?_ ?_
    · exact zX_leaf (fun _ _ h => h (.val (.int x9)))
    · refine zX_il5 (p := 64) d_262_62 rfl (zX_iln3 (p := 65) d_262_64 rfl (zX_il6 (p := 67) d_262_65 rfl (zX_shr (p := 68) d_262_67 rfl (zX_ic (p := 69) d_262_68 ci_1 rfl (zX_and (p := 70) d_262_69 rfl (zX_ic (p := 71) d_262_70 ci_1 rfl ?_))))))
      refine zX_cne (p1 := 87) (p2 := 74) d_262_71 (by decide) rfl ?_ ?_
      · refine zX_ic (p := 88) d_262_87 ci_0 rfl (zX_or (p := 89) d_262_88 rfl (zX_js5 (p := 91) d_262_89 rfl (fun x10 => ?_)))
        refine zX_ii6 (p := 94) d_262_91 ci_1 rfl (zX_goto (p := 50) d_262_94 (by decide) ?_)
        exact ih x10 (x9 + (1 : Int32))
      · refine zX_aln0 (p := 75) d_262_74 rfl (zX_gr (p := 78) (b := 149) d_262_75 ow_262 gf_10_7 zo_148 (zr_10_0 hL zo_148) rfl (zX_bi (p := 80) d_262_78 cb_7 rfl (zX_il6 (p := 82) d_262_80 rfl (zX_add (p := 83) d_262_82 rfl (zX_iag (p := 84) d_262_83 za_149 rfl (zX_goto (p := 88) d_262_84 (by decide) (zX_or (p := 89) d_262_88 rfl ?_)))))))
        refine zX_js5 (p := 91) d_262_89 rfl (fun x11 => ?_)
        refine zX_ii6 (p := 94) d_262_91 ci_1 rfl (zX_goto (p := 50) d_262_94 (by decide) ?_)
        exact ih x11 (x9 + (1 : Int32))

theorem s262_l25 {q : ZQ} {d : Nat} (hL : zLay q) {a1 : Int32} {a2 : Int32} {M : ZI} : ∀ (n : Nat) (x4 : Int32) (x5 : Int32) (s6 : Slot) (s7 : Slot), zX q (d + 2) 262 25 [.val (.ref 148), .val (.int a1), .val (.int a2), .val (.int x4), .val (.int x5), s6, s7] [] M (f262_l25 a2 M n x4 x5) (zEi M) := by
  intro n
  induction n with
  | zero => intros; exact zX_none
  | succ n ih =>
    intro x4 x5 s6 s7
    rw [f262_l25]
    refine zX_il4 (p := 27) d_262_25 rfl (zX_bi (p := 29) d_262_27 cb_10 rfl ?_)
    refine zX_cge (p1 := 106) (p2 := 32) d_262_29 (by decide) rfl ?_ ?_
    · refine zX_ic (p := 107) d_262_106 ci_m1 rfl ?_
      exact zX_reti d_262_107 rt_262
    · refine zX_iln3 (p := 33) d_262_32 rfl (zX_iln2 (p := 34) d_262_33 rfl (zX_shr (p := 35) d_262_34 rfl (zX_ic (p := 36) d_262_35 ci_1 rfl (zX_and (p := 37) d_262_36 rfl (zX_ic (p := 38) d_262_37 ci_1 rfl ?_)))))
      refine zX_cne (p1 := 44) (p2 := 41) d_262_38 (by decide) rfl ?_ ?_
      · refine zX_iln3 (p := 45) d_262_44 rfl (zX_is5 (p := 47) d_262_45 rfl (zX_ic (p := 48) d_262_47 ci_0 rfl (zX_is6 (p := 50) d_262_48 rfl ?_)))
        refine zX_bind (s262_l50 hL zfu x4 (0 : Int32)) ?_
        rintro x12 s13
        try dsimp only
        refine zX_il5 (p := 99) d_262_97 rfl (zX_isn3 (p := 100) d_262_99 rfl (zX_ii4 (p := 103) d_262_100 ci_1 rfl (zX_goto (p := 25) d_262_103 (by decide) ?_)))
        exact ih x12 (x5 + (1 : Int32)) (.val (.int x12)) (s13)
      · refine zX_il4 (p := 43) d_262_41 rfl ?_
        exact zX_reti d_262_43 rt_262

theorem s262 {q : ZQ} {d : Nat} (hL : zLay q) {a1 : Int32} {a2 : Int32} {M : ZI} : zX q (d + 2) 262 0 [.val (.ref 148), .val (.int a1), .val (.int a2), .unset, .unset, .unset, .unset] [] M (f262_way a1 a2 M) (zEi M) := by
  unfold f262_way
  refine zX_aln0 (p := 1) d_262_0 rfl (zX_iln1 (p := 2) d_262_1 rfl (zX_cV1i (p := 5) ⟨ow_152, by decide⟩ zo_148 d_262_2 ow_262 rs_10_65 kk_152 rfl (s152 hL) rfl rfl rfl rfl (fun v1 => ?_)))
  refine zX_zeq (p1 := 16) (p2 := 8) d_262_5 (by decide) rfl ?_ ?_
  · refine zX_ic (p := 17) d_262_16 ci_m1 rfl ?_
    exact zX_reti d_262_17 rt_262
  · refine zX_aln0 (p := 9) d_262_8 rfl (zX_iln2 (p := 10) d_262_9 rfl (zX_cV1i (p := 13) ⟨ow_152, by decide⟩ zo_148 d_262_10 ow_262 rs_10_65 kk_152 rfl (s152 hL) rfl rfl rfl rfl (fun v2 => ?_)))
    refine zX_zne (p1 := 18) (p2 := 16) d_262_13 (by decide) rfl ?_ ?_
    · refine zX_ic (p := 19) d_262_18 ci_1 rfl (zX_iln1 (p := 20) d_262_19 rfl (zX_shl (p := 21) d_262_20 rfl (zX_jsn3 (p := 22) d_262_21 rfl (fun x3 => ?_))))
      refine zX_ic (p := 23) d_262_22 ci_0 rfl (zX_is4 (p := 25) d_262_23 rfl ?_)
      exact s262_l25 hL zfu x3 (0 : Int32) (.unset) (.unset)
    · refine zX_ic (p := 17) d_262_16 ci_m1 rfl ?_
      exact zX_reti d_262_17 rt_262

theorem s264_l2 {q : ZQ} {d : Nat} (hL : zLay q) {a1 : Int32} {M : ZI} : ∀ (n : Nat) (x1 : Int32), zX q d 264 2 [.val (.ref 148), .val (.int a1), .val (.int x1)] [] M (f264_l2 a1 M n x1) (zEi M) := by
  intro n
  induction n with
  | zero => intros; exact zX_none
  | succ n ih =>
    intro x1
    rw [f264_l2]
    refine zX_iln2 (p := 3) d_264_2 rfl (zX_aln0 (p := 4) d_264_3 rfl (zX_gr (p := 7) (b := 149) d_264_4 ow_264 gf_10_7 zo_148 (zr_10_0 hL zo_148) rfl (zX_bi (p := 9) d_264_7 cb_48 rfl (zX_iac (p := 10) d_264_9 za_149 rfl zin_48_2064 zi_48 ?_))))
    refine zX_cge (p1 := 52) (p2 := 13) d_264_10 (by decide) rfl ?_ ?_
    · refine zX_ic (p := 53) d_264_52 ci_1 rfl ?_
      exact zX_retib d_264_53 rt_264 (Or.inr rfl)
    · refine zX_iln1 (p := 14) d_264_13 rfl (zX_iln2 (p := 15) d_264_14 rfl (zX_shr (p := 16) d_264_15 rfl (zX_ic (p := 17) d_264_16 ci_1 rfl (zX_and (p := 18) d_264_17 rfl (zX_ic (p := 19) d_264_18 ci_1 rfl ?_)))))
      refine zX_cne (p1 := 46) (p2 := 22) d_264_19 (by decide) rfl ?_ ?_
      · refine zX_ii2 (p := 49) d_264_46 ci_1 rfl (zX_goto (p := 2) d_264_49 (by decide) ?_)
        exact ih (x1 + (1 : Int32))
      · refine zX_iln1 (p := 23) d_264_22 rfl (zX_ic (p := 24) d_264_23 ci_1 rfl (zX_iln2 (p := 25) d_264_24 rfl (zX_shl (p := 26) d_264_25 rfl (zX_ic (p := 27) d_264_26 ci_m1 rfl (zX_xor (p := 28) d_264_27 rfl (zX_and (p := 29) d_264_28 rfl (zX_aln0 (p := 30) d_264_29 rfl ?_)))))))
        refine zX_gr (p := 33) (b := 149) d_264_30 ow_264 gf_10_7 zo_148 (zr_10_0 hL zo_148) rfl (zX_bi (p := 35) d_264_33 cb_7 rfl (zX_iln2 (p := 36) d_264_35 rfl (zX_add (p := 37) d_264_36 rfl (zX_iag (p := 38) d_264_37 za_149 rfl (zX_ic (p := 39) d_264_38 ci_m1 rfl (zX_xor (p := 40) d_264_39 rfl (zX_and (p := 41) d_264_40 rfl ?_)))))))
        refine zX_zeq (p1 := 46) (p2 := 44) d_264_41 (by decide) rfl ?_ ?_
        · refine zX_ii2 (p := 49) d_264_46 ci_1 rfl (zX_goto (p := 2) d_264_49 (by decide) ?_)
          exact ih (x1 + (1 : Int32))
        · refine zX_ic (p := 45) d_264_44 ci_0 rfl ?_
          exact zX_retib d_264_45 rt_264 (Or.inl rfl)

theorem s264 {q : ZQ} {d : Nat} (hL : zLay q) {a1 : Int32} {M : ZI} : zX q d 264 0 [.val (.ref 148), .val (.int a1), .unset] [] M (f264_isClique a1 M) (zEi M) := by
  unfold f264_isClique
  refine zX_ic (p := 1) d_264_0 ci_0 rfl (zX_isn2 (p := 2) d_264_1 rfl ?_)
  exact s264_l2 hL zfu (0 : Int32)

theorem s263_l15 {q : ZQ} {d : Nat} (hL : zLay q) {a1 : Int32} {M : ZI} : ∀ (n : Nat) (x2 : Int32) (x3 : Int32), zX q (d + 1) 263 15 [.val (.ref 148), .val (.int a1), .val (.int x2), .val (.int x3)] [] M (f263_l15 M n x2 x3) (zEj q (d + 1) 263 50 (fun (b : Int32) (s : Slot) => [.val (.ref 148), .val (.int a1), .val (.int b), s]) (fun b => []) (fun b => M)) := by
  intro n
  induction n with
  | zero => intros; exact zX_none
  | succ n ih =>
    intro x2 x3
    rw [f263_l15]
    refine zX_iln3 (p := 16) d_263_15 rfl (zX_aln0 (p := 17) d_263_16 rfl (zX_cV0i (p := 20) ⟨ow_234, by decide⟩ zo_148 d_263_17 ow_263 rs_10_389 kk_234 rfl (s234 hL) rfl rfl rfl rfl (fun v4 => ?_)))
    refine zX_cgt (p1 := 50) (p2 := 23) d_263_20 (by decide) rfl ?_ ?_
    · exact zX_leaf (fun _ _ h => h (.val (.int x3)))
    · refine zX_iln3 (p := 24) d_263_23 rfl (zX_cS1i (p := 27) d_263_24 ow_263 rs_10_311 kk_209 rfl (s209 hL) rfl rfl rfl rfl (fun v5 => ?_))
      refine zX_iln2 (p := 28) d_263_27 rfl (zX_cS1i (p := 31) d_263_28 ow_263 rs_10_311 kk_209 rfl (s209 hL) rfl rfl rfl rfl (fun v6 => ?_))
      refine zX_cle (p1 := 44) (p2 := 34) d_263_31 (by decide) rfl ?_ ?_
      · refine zX_ii3 (p := 47) d_263_44 ci_1 rfl (zX_goto (p := 15) d_263_47 (by decide) ?_)
        exact ih x2 (x3 + (1 : Int32))
      · refine zX_aln0 (p := 35) d_263_34 rfl (zX_iln3 (p := 36) d_263_35 rfl (zX_cV1i (p := 39) ⟨ow_264, by decide⟩ zo_148 d_263_36 ow_263 rs_10_420 kk_264 rfl (s264 hL) rfl rfl rfl rfl (fun v7 => ?_)))
        refine zX_zeq (p1 := 44) (p2 := 42) d_263_39 (by decide) rfl ?_ ?_
        · refine zX_ii3 (p := 47) d_263_44 ci_1 rfl (zX_goto (p := 15) d_263_47 (by decide) ?_)
          exact ih x2 (x3 + (1 : Int32))
        · refine zX_iln3 (p := 43) d_263_42 rfl (zX_isn2 (p := 44) d_263_43 rfl (zX_ii3 (p := 47) d_263_44 ci_1 rfl (zX_goto (p := 15) d_263_47 (by decide) ?_)))
          exact ih x3 (x3 + (1 : Int32))

theorem s263 {q : ZQ} {d : Nat} (hL : zLay q) {a1 : Int32} {M : ZI} : zX q (d + 1) 263 0 [.val (.ref 148), .val (.int a1), .unset, .unset] [] M (f263_clique a1 M) (zEi M) := by
  unfold f263_clique
  refine zX_iln1 (p := 1) d_263_0 rfl (zX_ic (p := 2) d_263_1 ci_0 rfl (zX_ic (p := 3) d_263_2 ci_1 rfl (zX_cS3i (p := 6) d_263_3 ow_263 rs_10_53 kk_149 rfl (s149 hL) rfl rfl rfl rfl (fun v1 => ?_))))
  refine zX_zne (p1 := 11) (p2 := 9) d_263_6 (by decide) rfl ?_ ?_
  · refine zX_ic (p := 12) d_263_11 ci_0 rfl (zX_isn2 (p := 13) d_263_12 rfl (zX_ic (p := 14) d_263_13 ci_1 rfl (zX_isn3 (p := 15) d_263_14 rfl ?_)))
    refine zX_bind (s263_l15 hL zfu (0 : Int32) (1 : Int32)) ?_
    rintro x8 s9
    try dsimp only
    refine zX_iln1 (p := 51) d_263_50 rfl ?_
    refine zX_zne (p1 := 61) (p2 := 54) d_263_51 (by decide) rfl ?_ ?_
    · refine zX_iln2 (p := 62) d_263_61 rfl ?_
      exact zX_reti d_263_62 rt_263
    · refine zX_iln2 (p := 55) d_263_54 rfl (zX_cS1i (p := 58) d_263_55 ow_263 rs_10_311 kk_209 rfl (s209 hL) rfl rfl rfl rfl (fun v10 => ?_))
      refine zX_goto (p := 62) d_263_58 (by decide) ?_
      exact zX_reti d_263_62 rt_263
  · refine zX_ic (p := 10) d_263_9 ci_m1 rfl ?_
    exact zX_reti d_263_10 rt_263

theorem s265_l15 {q : ZQ} {d : Nat} (hL : zLay q) {a1 : Int32} : ∀ (n : Nat) (x1 : Int32) (M2 : ZI), zX q (d + 1) 265 15 [.val (.ref 148), .val (.int a1), .val (.int x1)] [] M2 (f265_l15 a1 n x1 M2) (zEj q (d + 1) 265 59 (fun (b : ZI) (s : Slot) => [.val (.ref 148), .val (.int a1), s]) (fun b => []) (fun b => b)) := by
  intro n
  induction n with
  | zero => intros; exact zX_none
  | succ n ih =>
    intro x1 M2
    rw [f265_l15]
    refine zX_iln2 (p := 16) d_265_15 rfl (zX_si (p := 19) d_265_16 cs_2064 rfl ?_)
    refine zX_cge (p1 := 59) (p2 := 22) d_265_19 (by decide) rfl ?_ ?_
    · exact zX_leaf (fun _ _ h => h (.val (.int x1)))
    · refine zX_iln1 (p := 23) d_265_22 rfl ?_
      refine zX_zeq (p1 := 41) (p2 := 26) d_265_23 (by decide) rfl ?_ ?_
      · refine zX_aln0 (p := 42) d_265_41 rfl (zX_gr (p := 45) (b := 149) d_265_42 ow_265 gf_10_7 zo_148 (zr_10_0 hL zo_148) rfl (zX_iln2 (p := 46) d_265_45 rfl (zX_aln0 (p := 47) d_265_46 rfl (zX_gr (p := 50) (b := 150) d_265_47 ow_265 gf_10_13 zo_148 (zr_10_1 hL zo_148) rfl (zX_iln2 (p := 51) d_265_50 rfl (zX_iag (p := 52) d_265_51 za_150 rfl (zX_itg (p := 53) d_265_52 za_149 rfl (fun M3 => ?_))))))))
        refine zX_ii2 (p := 56) d_265_53 ci_1 rfl (zX_goto (p := 15) d_265_56 (by decide) ?_)
        exact ih (x1 + (1 : Int32)) M3
      · refine zX_aln0 (p := 27) d_265_26 rfl (zX_gr (p := 30) (b := 150) d_265_27 ow_265 gf_10_13 zo_148 (zr_10_1 hL zo_148) rfl (zX_iln2 (p := 31) d_265_30 rfl (zX_aln0 (p := 32) d_265_31 rfl (zX_gr (p := 35) (b := 149) d_265_32 ow_265 gf_10_7 zo_148 (zr_10_0 hL zo_148) rfl (zX_iln2 (p := 36) d_265_35 rfl (zX_iag (p := 37) d_265_36 za_149 rfl (zX_itg (p := 38) d_265_37 za_150 rfl (fun M4 => ?_))))))))
        refine zX_goto (p := 53) d_265_38 (by decide) (zX_ii2 (p := 56) d_265_53 ci_1 rfl (zX_goto (p := 15) d_265_56 (by decide) ?_))
        exact ih (x1 + (1 : Int32)) M4

theorem s265 {q : ZQ} {d : Nat} (hL : zLay q) {a1 : Int32} {M : ZI} : zX q (d + 1) 265 0 [.val (.ref 148), .val (.int a1), .unset] [] M (f265_image a1 M) zEm := by
  unfold f265_image
  refine zX_iln1 (p := 1) d_265_0 rfl ?_
  refine zX_jn (P := fun g => ∀ (_ : Unit), zX q (d + 1) 265 13 [.val (.ref 148), .val (.int a1), .unset] [] M (g ()) zEm) ?_ (fun j10 hj10 => ?_)
  · intro _
    try dsimp only
    refine zX_ic (p := 14) d_265_13 ci_0 rfl (zX_isn2 (p := 15) d_265_14 rfl ?_)
    refine zX_bind (s265_l15 hL zfu (0 : Int32) M) ?_
    rintro M5 s6
    try dsimp only
    refine zX_iln1 (p := 60) d_265_59 rfl ?_
    refine zX_zne (p1 := 67) (p2 := 63) d_265_60 (by decide) rfl ?_ ?_
    · refine zX_aln0 (p := 68) d_265_67 rfl (zX_ic (p := 69) d_265_68 ci_1 rfl (zX_pb (p := 72) d_265_69 ow_265 gf_10_423 (Or.inr rfl) zo_148 rfl (fun M7 => ?_)))
      refine zX_ic (p := 73) d_265_72 ci_1 rfl ?_
      exact zX_retmb d_265_73 rt_265 (Or.inr rfl)
    · refine zX_aln0 (p := 64) d_265_63 rfl (zX_cV0v (p := 67) ⟨ow_147, by decide⟩ zo_148 d_265_64 ow_265 rs_10_60 kk_147 rfl (s147 hL) rfl rfl rfl rfl (fun M8 => ?_))
      refine zX_aln0 (p := 68) d_265_67 rfl (zX_ic (p := 69) d_265_68 ci_1 rfl (zX_pb (p := 72) d_265_69 ow_265 gf_10_423 (Or.inr rfl) zo_148 rfl (fun M9 => ?_)))
      refine zX_ic (p := 73) d_265_72 ci_1 rfl ?_
      exact zX_retmb d_265_73 rt_265 (Or.inr rfl)
  · refine zX_zne (p1 := 13) (p2 := 4) d_265_1 (by decide) rfl ?_ ?_
    · exact hj10 ()
    · refine zX_aln0 (p := 5) d_265_4 rfl (zX_gib (p := 8) d_265_5 ow_265 gf_10_423 zo_148 rfl ?_)
      refine zX_zne (p1 := 13) (p2 := 11) d_265_8 (by decide) rfl ?_ ?_
      · exact hj10 ()
      · refine zX_ic (p := 12) d_265_11 ci_0 rfl ?_
        exact zX_retmb d_265_12 rt_265 (Or.inl rfl)

theorem s266 {q : ZQ} {d : Nat} (hL : zLay q) {a1 : Int32} {M : ZI} : zX q (d + 8) 266 0 [.val (.ref 148), .val (.int a1)] [] M (f266_look a1 M) zEm := by
  unfold f266_look
  refine zX_iln1 (p := 1) d_266_0 rfl ?_
  refine zX_ite (fun hs1_0 => ?_) (fun hs1_0 => ?_)
  · refine zX_tsh (p := 88) (n := 0) d_266_1 hs1_0 (by decide) (by decide) (by decide) rfl (by decide) ?_
    refine zX_aln0 (p := 89) d_266_88 rfl (zX_gr (p := 92) (b := 149) d_266_89 ow_266 gf_10_7 zo_148 (zr_10_0 hL zo_148) rfl (zX_bi (p := 94) d_266_92 cb_48 rfl (zX_iac (p := 95) d_266_94 za_149 rfl zin_48_2064 zi_48 ?_)))
    exact zX_retm d_266_95 rt_266
  refine zX_ite (fun hs1_1 => ?_) (fun hs1_1 => ?_)
  · refine zX_tsh (p := 96) (n := 1) d_266_1 hs1_1 (by decide) (by decide) (by decide) rfl (by decide) ?_
    refine zX_aln0 (p := 97) d_266_96 rfl (zX_gr (p := 100) (b := 149) d_266_97 ow_266 gf_10_7 zo_148 (zr_10_0 hL zo_148) rfl (zX_ic (p := 101) d_266_100 ci_0 rfl (zX_iac (p := 102) d_266_101 za_149 rfl zin_0_2064 zi_0 ?_)))
    exact zX_retm d_266_102 rt_266
  refine zX_ite (fun hs1_2 => ?_) (fun hs1_2 => ?_)
  · refine zX_tsh (p := 103) (n := 2) d_266_1 hs1_2 (by decide) (by decide) (by decide) rfl (by decide) ?_
    refine zX_aln0 (p := 104) d_266_103 rfl (zX_gr (p := 107) (b := 149) d_266_104 ow_266 gf_10_7 zo_148 (zr_10_0 hL zo_148) rfl (zX_ic (p := 108) d_266_107 ci_1 rfl (zX_iac (p := 109) d_266_108 za_149 rfl zin_1_2064 zi_1 ?_)))
    exact zX_retm d_266_109 rt_266
  refine zX_ite (fun hs1_3 => ?_) (fun hs1_3 => ?_)
  · refine zX_tsh (p := 110) (n := 3) d_266_1 hs1_3 (by decide) (by decide) (by decide) rfl (by decide) ?_
    refine zX_aln0 (p := 111) d_266_110 rfl (zX_gr (p := 114) (b := 149) d_266_111 ow_266 gf_10_7 zo_148 (zr_10_0 hL zo_148) rfl (zX_bi (p := 116) d_266_114 cb_49 rfl (zX_iac (p := 117) d_266_116 za_149 rfl zin_49_2064 zi_49 ?_)))
    exact zX_retm d_266_117 rt_266
  refine zX_ite (fun hs1_4 => ?_) (fun hs1_4 => ?_)
  · refine zX_tsh (p := 118) (n := 4) d_266_1 hs1_4 (by decide) (by decide) (by decide) rfl (by decide) ?_
    refine zX_aln0 (p := 119) d_266_118 rfl (zX_gr (p := 122) (b := 149) d_266_119 ow_266 gf_10_7 zo_148 (zr_10_0 hL zo_148) rfl (zX_bi (p := 124) d_266_122 cb_50 rfl (zX_iac (p := 125) d_266_124 za_149 rfl zin_50_2064 zi_50 ?_)))
    exact zX_retm d_266_125 rt_266
  refine zX_ite (fun hs1_5 => ?_) (fun hs1_5 => ?_)
  · refine zX_tsh (p := 126) (n := 5) d_266_1 hs1_5 (by decide) (by decide) (by decide) rfl (by decide) ?_
    refine zX_aln0 (p := 127) d_266_126 rfl (zX_gr (p := 130) (b := 149) d_266_127 ow_266 gf_10_7 zo_148 (zr_10_0 hL zo_148) rfl (zX_ic (p := 131) d_266_130 ci_2 rfl (zX_iac (p := 132) d_266_131 za_149 rfl zin_2_2064 zi_2 ?_)))
    exact zX_retm d_266_132 rt_266
  refine zX_ite (fun hs1_6 => ?_) (fun hs1_6 => ?_)
  · refine zX_tsh (p := 133) (n := 6) d_266_1 hs1_6 (by decide) (by decide) (by decide) rfl (by decide) ?_
    refine zX_aln0 (p := 134) d_266_133 rfl (zX_gr (p := 137) (b := 149) d_266_134 ow_266 gf_10_7 zo_148 (zr_10_0 hL zo_148) rfl (zX_ic (p := 138) d_266_137 ci_3 rfl (zX_iac (p := 139) d_266_138 za_149 rfl zin_3_2064 zi_3 ?_)))
    exact zX_retm d_266_139 rt_266
  refine zX_ite (fun hs1_7 => ?_) (fun hs1_7 => ?_)
  · refine zX_tsh (p := 140) (n := 7) d_266_1 hs1_7 (by decide) (by decide) (by decide) rfl (by decide) ?_
    refine zX_aln0 (p := 141) d_266_140 rfl (zX_gr (p := 144) (b := 149) d_266_141 ow_266 gf_10_7 zo_148 (zr_10_0 hL zo_148) rfl (zX_ic (p := 145) d_266_144 ci_5 rfl (zX_iac (p := 146) d_266_145 za_149 rfl zin_5_2064 zi_5 ?_)))
    exact zX_retm d_266_146 rt_266
  refine zX_ite (fun hs1_8 => ?_) (fun hs1_8 => ?_)
  · refine zX_tsh (p := 147) (n := 8) d_266_1 hs1_8 (by decide) (by decide) (by decide) rfl (by decide) ?_
    refine zX_aln0 (p := 148) d_266_147 rfl (zX_gr (p := 151) (b := 149) d_266_148 ow_266 gf_10_7 zo_148 (zr_10_0 hL zo_148) rfl (zX_ic (p := 152) d_266_151 ci_4 rfl (zX_iac (p := 153) d_266_152 za_149 rfl zin_4_2064 zi_4 ?_)))
    exact zX_retm d_266_153 rt_266
  refine zX_ite (fun hs1_9 => ?_) (fun hs1_9 => ?_)
  · refine zX_tsh (p := 154) (n := 9) d_266_1 hs1_9 (by decide) (by decide) (by decide) rfl (by decide) ?_
    refine zX_aln0 (p := 155) d_266_154 rfl (zX_gr (p := 158) (b := 149) d_266_155 ow_266 gf_10_7 zo_148 (zr_10_0 hL zo_148) rfl (zX_bi (p := 160) d_266_158 cb_58 rfl (zX_iac (p := 161) d_266_160 za_149 rfl zin_58_2064 zi_58 ?_)))
    exact zX_retm d_266_161 rt_266
  refine zX_ite (fun hs1_10 => ?_) (fun hs1_10 => ?_)
  · refine zX_tsh (p := 162) (n := 10) d_266_1 hs1_10 (by decide) (by decide) (by decide) rfl (by decide) ?_
    refine zX_aln0 (p := 163) d_266_162 rfl (zX_gr (p := 166) (b := 149) d_266_163 ow_266 gf_10_7 zo_148 (zr_10_0 hL zo_148) rfl (zX_bi (p := 168) d_266_166 cb_51 rfl (zX_iac (p := 169) d_266_168 za_149 rfl zin_51_2064 zi_51 ?_)))
    exact zX_retm d_266_169 rt_266
  refine zX_ite (fun hs1_11 => ?_) (fun hs1_11 => ?_)
  · refine zX_tsh (p := 170) (n := 11) d_266_1 hs1_11 (by decide) (by decide) (by decide) rfl (by decide) ?_
    refine zX_aln0 (p := 171) d_266_170 rfl (zX_gr (p := 174) (b := 149) d_266_171 ow_266 gf_10_7 zo_148 (zr_10_0 hL zo_148) rfl (zX_bi (p := 176) d_266_174 cb_52 rfl (zX_iac (p := 177) d_266_176 za_149 rfl zin_52_2064 zi_52 ?_)))
    exact zX_retm d_266_177 rt_266
  refine zX_ite (fun hs1_12 => ?_) (fun hs1_12 => ?_)
  · refine zX_tsh (p := 178) (n := 12) d_266_1 hs1_12 (by decide) (by decide) (by decide) rfl (by decide) ?_
    refine zX_aln0 (p := 179) d_266_178 rfl (zX_gr (p := 182) (b := 149) d_266_179 ow_266 gf_10_7 zo_148 (zr_10_0 hL zo_148) rfl (zX_bi (p := 184) d_266_182 cb_53 rfl (zX_iac (p := 185) d_266_184 za_149 rfl zin_53_2064 zi_53 ?_)))
    exact zX_retm d_266_185 rt_266
  refine zX_ite (fun hs1_13 => ?_) (fun hs1_13 => ?_)
  · refine zX_tsh (p := 186) (n := 13) d_266_1 hs1_13 (by decide) (by decide) (by decide) rfl (by decide) ?_
    refine zX_aln0 (p := 187) d_266_186 rfl (zX_gr (p := 190) (b := 149) d_266_187 ow_266 gf_10_7 zo_148 (zr_10_0 hL zo_148) rfl (zX_bi (p := 192) d_266_190 cb_55 rfl (zX_iac (p := 193) d_266_192 za_149 rfl zin_55_2064 zi_55 ?_)))
    exact zX_retm d_266_193 rt_266
  refine zX_ite (fun hs1_14 => ?_) (fun hs1_14 => ?_)
  · refine zX_tsh (p := 194) (n := 14) d_266_1 hs1_14 (by decide) (by decide) (by decide) rfl (by decide) ?_
    refine zX_aln0 (p := 195) d_266_194 rfl (zX_gi (p := 198) d_266_195 ow_266 gf_10_57 zo_148 rfl ?_)
    exact zX_retm d_266_198 rt_266
  refine zX_ite (fun hs1_15 => ?_) (fun hs1_15 => ?_)
  · refine zX_tsh (p := 199) (n := 15) d_266_1 hs1_15 (by decide) (by decide) (by decide) rfl (by decide) ?_
    refine zX_aln0 (p := 200) d_266_199 rfl (zX_cV0m (p := 203) ⟨ow_205, by decide⟩ zo_148 d_266_200 ow_266 rs_10_374 kk_205 rfl (s205 hL) rfl rfl rfl rfl (fun v1 M2 => ?_))
    try dsimp only
    exact zX_retm d_266_203 rt_266
  refine zX_ite (fun hs1_16 => ?_) (fun hs1_16 => ?_)
  · refine zX_tsh (p := 204) (n := 16) d_266_1 hs1_16 (by decide) (by decide) (by decide) rfl (by decide) ?_
    refine zX_aln0 (p := 205) d_266_204 rfl (zX_gr (p := 208) (b := 149) d_266_205 ow_266 gf_10_7 zo_148 (zr_10_0 hL zo_148) rfl (zX_bi (p := 210) d_266_208 cb_56 rfl (zX_iac (p := 211) d_266_210 za_149 rfl zin_56_2064 zi_56 ?_)))
    exact zX_retm d_266_211 rt_266
  refine zX_ite (fun hs1_17 => ?_) (fun hs1_17 => ?_)
  · refine zX_tsh (p := 212) (n := 17) d_266_1 hs1_17 (by decide) (by decide) (by decide) rfl (by decide) ?_
    refine zX_aln0 (p := 213) d_266_212 rfl (zX_gr (p := 216) (b := 149) d_266_213 ow_266 gf_10_7 zo_148 (zr_10_0 hL zo_148) rfl (zX_bi (p := 218) d_266_216 cb_57 rfl (zX_iac (p := 219) d_266_218 za_149 rfl zin_57_2064 zi_57 ?_)))
    exact zX_retm d_266_219 rt_266
  have hz1 : (a1 : Int32).toInt < 0 ∨ 17 < (a1 : Int32).toInt := by
    have := zne_i (n := 0) (by decide) hs1_0
    have := zne_i (n := 1) (by decide) hs1_1
    have := zne_i (n := 2) (by decide) hs1_2
    have := zne_i (n := 3) (by decide) hs1_3
    have := zne_i (n := 4) (by decide) hs1_4
    have := zne_i (n := 5) (by decide) hs1_5
    have := zne_i (n := 6) (by decide) hs1_6
    have := zne_i (n := 7) (by decide) hs1_7
    have := zne_i (n := 8) (by decide) hs1_8
    have := zne_i (n := 9) (by decide) hs1_9
    have := zne_i (n := 10) (by decide) hs1_10
    have := zne_i (n := 11) (by decide) hs1_11
    have := zne_i (n := 12) (by decide) hs1_12
    have := zne_i (n := 13) (by decide) hs1_13
    have := zne_i (n := 14) (by decide) hs1_14
    have := zne_i (n := 15) (by decide) hs1_15
    have := zne_i (n := 16) (by decide) hs1_16
    have := zne_i (n := 17) (by decide) hs1_17
    omega
  refine zX_tsd (p := 220) d_266_1 hz1 (by decide) ?_
  refine zX_ic (p := 221) d_266_220 ci_m1 rfl ?_
  exact zX_retm d_266_221 rt_266

