-- ===== RUNS of the class keep its functions =====
theorem s11 {q : ZQ} {d : Nat} (hL : zLay q) {M : ZI} : zX q d 11 0 [.val (.ref 0)] [] M (f11_forgetPasts M) zEv := by
  unfold f11_forgetPasts
  refine zX_aln0 (p := 1) d_11_0 rfl (zX_ic (p := 2) d_11_1 ci_0 rfl (zX_pi (p := 5) d_11_2 ow_11 gf_0_34 zo_0 rfl (fun M1 => ?_)))
  exact zX_retv d_11_5 rt_11

theorem s10 {q : ZQ} {d : Nat} (hL : zLay q) {a1 : Int32} {M : ZI} : zX q (d + 1) 10 0 [.val (.ref 0), .val (.int a1), .unset] [] M (f10_state a1 M) zEm := by
  unfold f10_state
  refine zX_aln0 (p := 1) d_10_0 rfl (zX_gr (p := 4) (b := 1) d_10_1 ow_10 gf_0_10 zo_0 (zr_0_0 hL zo_0) rfl (zX_gr (p := 7) (b := 2) d_10_4 ow_10 gf_0_52 zo_1 (zr_1_0 hL zo_1) rfl (zX_gi (p := 10) d_10_7 ow_10 gf_0_55 zo_2 rfl (zX_jsn2 (p := 11) d_10_10 rfl (fun x1 => ?_)))))
  refine zX_aln0 (p := 12) d_10_11 rfl (zX_gr (p := 15) (b := 1) d_10_12 ow_10 gf_0_10 zo_0 (zr_0_0 hL zo_0) rfl (zX_gr (p := 18) (b := 2) d_10_15 ow_10 gf_0_52 zo_1 (zr_1_0 hL zo_1) rfl (zX_iln1 (p := 19) d_10_18 rfl (zX_pi (p := 22) d_10_19 ow_10 gf_0_55 zo_2 rfl (fun M2 => ?_)))))
  refine zX_aln0 (p := 23) d_10_22 rfl (zX_cV0v (p := 26) ⟨ow_11, by decide, zdr_11⟩ zo_0 d_10_23 ow_10 rs_0_58 kk_11 rfl (s11 hL) rfl rfl rfl rfl (fun M3 => ?_))
  refine zX_iln2 (p := 27) d_10_26 rfl ?_
  exact zX_retm d_10_27 rt_10

theorem s13 {q : ZQ} {d : Nat} (hL : zLay q) {a0 : Int32} {a1 : Int32} {a2 : Int32} {M : ZI} : zX q d 13 0 [.val (.int a0), .val (.int a1), .val (.int a2)] [] M (f13_within a0 a1 a2) (zEi M) := by
  unfold f13_within
  refine zX_iln0 (p := 1) d_13_0 rfl (zX_iln1 (p := 2) d_13_1 rfl ?_)
  refine zX_clt (p1 := 14) (p2 := 5) d_13_2 (by decide) rfl ?_ ?_
  · refine zX_ic (p := 15) d_13_14 ci_0 rfl ?_
    exact zX_retib d_13_15 rt_13 (Or.inl rfl)
  · refine zX_iln0 (p := 6) d_13_5 rfl (zX_iln2 (p := 7) d_13_6 rfl ?_)
    refine zX_cgt (p1 := 14) (p2 := 10) d_13_7 (by decide) rfl ?_ ?_
    · refine zX_ic (p := 15) d_13_14 ci_0 rfl ?_
      exact zX_retib d_13_15 rt_13 (Or.inl rfl)
    · refine zX_ic (p := 11) d_13_10 ci_1 rfl (zX_goto (p := 15) d_13_11 (by decide) ?_)
      exact zX_retib d_13_15 rt_13 (Or.inr rfl)

theorem s14 {q : ZQ} {d : Nat} (hL : zLay q) {t : Nat} {a1 : Int32} {a2 : Int32} {M : ZI} (ht : zOb 1 t) : zX q d 14 0 [.val (.ref t), .val (.int a1), .val (.int a2), .unset] [] M (f14_welcome t a1 a2 M) zEm := by
  unfold f14_welcome
  refine zX_aln0 (p := 1) d_14_0 rfl (zX_gi (p := 4) d_14_1 ow_14 gf_1_101 ht rfl (zX_jsn3 (p := 5) d_14_4 rfl (fun x1 => ?_)))
  refine zX_iln3 (p := 6) d_14_5 rfl (zX_bi (p := 8) d_14_6 cb_10 rfl ?_)
  refine zX_clt (p1 := 13) (p2 := 11) d_14_8 (by decide) rfl ?_ ?_
  · refine zX_aln0 (p := 14) d_14_13 rfl (zX_gr (p := 17) (b := (t + 36)) d_14_14 ow_14 gf_1_53 ht (zr_1_6 hL ht) rfl (zX_iln3 (p := 18) d_14_17 rfl (zX_iln2 (p := 19) d_14_18 rfl (zX_itg (p := 20) d_14_19 (zsa_1_6 ht) rfl (fun M2 => ?_)))))
    refine zX_aln0 (p := 21) d_14_20 rfl (zX_gr (p := 24) (b := (t + 37)) d_14_21 ow_14 gf_1_57 ht (zr_1_7 hL ht) rfl (zX_iln3 (p := 25) d_14_24 rfl (zX_si (p := 28) d_14_25 cs_999 rfl (zX_itg (p := 29) d_14_28 (zsa_1_7 ht) rfl (fun M3 => ?_)))))
    refine zX_aln0 (p := 30) d_14_29 rfl (zX_gr (p := 33) (b := (t + 38)) d_14_30 ow_14 gf_1_60 ht (zr_1_8 hL ht) rfl (zX_iln3 (p := 34) d_14_33 rfl (zX_ic (p := 35) d_14_34 ci_m1 rfl (zX_itg (p := 36) d_14_35 (zsa_1_8 ht) rfl (fun M4 => ?_)))))
    refine zX_aln0 (p := 37) d_14_36 rfl (zX_gr (p := 40) (b := (t + 1)) d_14_37 ow_14 gf_1_12 ht (zr_1_0 hL ht) rfl (zX_gr (p := 43) (b := (t + 2)) d_14_40 ow_14 gf_1_110 (zso_1_0 ht) (zr_2_0 hL (zso_1_0 ht)) rfl (zX_iln3 (p := 44) d_14_43 rfl (zX_iln1 (p := 45) d_14_44 rfl (zX_itg (p := 46) d_14_45 (zsa_2_0 (zso_1_0 ht)) rfl (fun M5 => ?_))))))
    refine zX_aln0 (p := 47) d_14_46 rfl (zX_gr (p := 50) (b := (t + 1)) d_14_47 ow_14 gf_1_12 ht (zr_1_0 hL ht) rfl (zX_gr (p := 53) (b := (t + 3)) d_14_50 ow_14 gf_1_113 (zso_1_0 ht) (zr_2_1 hL (zso_1_0 ht)) rfl (zX_iln3 (p := 54) d_14_53 rfl (zX_ic (p := 55) d_14_54 ci_0 rfl (zX_itg (p := 56) d_14_55 (zsa_2_1 (zso_1_0 ht)) rfl (fun M6 => ?_))))))
    refine zX_aln0 (p := 57) d_14_56 rfl (zX_gr (p := 60) (b := (t + 1)) d_14_57 ow_14 gf_1_12 ht (zr_1_0 hL ht) rfl (zX_gr (p := 63) (b := (t + 4)) d_14_60 ow_14 gf_1_116 (zso_1_0 ht) (zr_2_2 hL (zso_1_0 ht)) rfl (zX_iln3 (p := 64) d_14_63 rfl (zX_ic (p := 65) d_14_64 ci_0 rfl (zX_itg (p := 66) d_14_65 (zsa_2_2 (zso_1_0 ht)) rfl (fun M7 => ?_))))))
    refine zX_aln0 (p := 67) d_14_66 rfl (zX_gr (p := 70) (b := (t + 1)) d_14_67 ow_14 gf_1_12 ht (zr_1_0 hL ht) rfl (zX_gr (p := 73) (b := (t + 5)) d_14_70 ow_14 gf_1_119 (zso_1_0 ht) (zr_2_3 hL (zso_1_0 ht)) rfl (zX_iln3 (p := 74) d_14_73 rfl (zX_ic (p := 75) d_14_74 ci_0 rfl (zX_itg (p := 76) d_14_75 (zsa_2_3 (zso_1_0 ht)) rfl (fun M8 => ?_))))))
    refine zX_aln0 (p := 77) d_14_76 rfl (zX_dup (p := 78) d_14_77 rfl rfl (zX_gi (p := 81) d_14_78 ow_14 gf_1_101 ht rfl (zX_ic (p := 82) d_14_81 ci_1 rfl (zX_add (p := 83) d_14_82 rfl (zX_pi (p := 86) d_14_83 ow_14 gf_1_101 ht rfl (fun M9 => ?_))))))
    refine zX_iln3 (p := 87) d_14_86 rfl ?_
    exact zX_retm d_14_87 rt_14
  · refine zX_ic (p := 12) d_14_11 ci_m1 rfl ?_
    exact zX_retm d_14_12 rt_14

theorem s12 {q : ZQ} {d : Nat} (hL : zLay q) {a1 : Int32} {a2 : Int32} {M : ZI} : zX q (d + 1) 12 0 [.val (.ref 0), .val (.int a1), .val (.int a2)] [] M (f12_person a1 a2 M) zEm := by
  unfold f12_person
  refine zX_iln1 (p := 1) d_12_0 rfl (zX_ic (p := 2) d_12_1 ci_0 rfl (zX_bi (p := 4) d_12_2 cb_99 rfl (zX_cS3i (p := 7) d_12_4 ow_12 rs_0_61 kk_13 rfl (s13 hL) rfl rfl rfl rfl (fun v1 => ?_))))
  refine zX_zeq (p1 := 32) (p2 := 10) d_12_7 (by decide) rfl ?_ ?_
  · refine zX_ic (p := 33) d_12_32 ci_m1 rfl ?_
    exact zX_retm d_12_33 rt_12
  · refine zX_iln2 (p := 11) d_12_10 rfl (zX_ic (p := 12) d_12_11 ci_0 rfl (zX_bi (p := 14) d_12_12 cb_24 rfl (zX_cS3i (p := 17) d_12_14 ow_12 rs_0_61 kk_13 rfl (s13 hL) rfl rfl rfl rfl (fun v2 => ?_))))
    refine zX_zeq (p1 := 32) (p2 := 20) d_12_17 (by decide) rfl ?_ ?_
    · refine zX_ic (p := 33) d_12_32 ci_m1 rfl ?_
      exact zX_retm d_12_33 rt_12
    · refine zX_aln0 (p := 21) d_12_20 rfl (zX_gr (p := 24) (b := 1) d_12_21 ow_12 gf_0_10 zo_0 (zr_0_0 hL zo_0) rfl (zX_gi (p := 27) d_12_24 ow_12 gf_0_65 zo_1 rfl (zX_bi (p := 29) d_12_27 cb_10 rfl ?_)))
      refine zX_clt (p1 := 34) (p2 := 32) d_12_29 (by decide) rfl ?_ ?_
      · refine zX_aln0 (p := 35) d_12_34 rfl (zX_cV0v (p := 38) ⟨ow_11, by decide, zdr_11⟩ zo_0 d_12_35 ow_12 rs_0_58 kk_11 rfl (s11 hL) rfl rfl rfl rfl (fun M3 => ?_))
        refine zX_aln0 (p := 39) d_12_38 rfl (zX_gr (p := 42) (b := 1) d_12_39 ow_12 gf_0_10 zo_0 (zr_0_0 hL zo_0) rfl (zX_iln1 (p := 43) d_12_42 rfl (zX_iln2 (p := 44) d_12_43 rfl (zX_cV2m (p := 47) ⟨ow_14, by decide, zdr_14⟩ zo_1 d_12_44 ow_12 rs_0_68 kk_14 rfl (s14 hL zo_1) rfl rfl rfl rfl (fun v4 M5 => ?_)))))
        try dsimp only
        exact zX_retm d_12_47 rt_12
      · refine zX_ic (p := 33) d_12_32 ci_m1 rfl ?_
        exact zX_retm d_12_33 rt_12

theorem s17 {q : ZQ} {d : Nat} (hL : zLay q) {t : Nat} {a1 : Int32} {M : ZI} (ht : zOb 1 t) : zX q d 17 0 [.val (.ref t), .val (.int a1)] [] M (f17_has t a1 M) (zEi M) := by
  unfold f17_has
  refine zX_iln1 (p := 1) d_17_0 rfl ?_
  refine zX_zlt (p1 := 16) (p2 := 4) d_17_1 (by decide) rfl ?_ ?_
  · refine zX_ic (p := 17) d_17_16 ci_0 rfl ?_
    exact zX_retib d_17_17 rt_17 (Or.inl rfl)
  · refine zX_iln1 (p := 5) d_17_4 rfl (zX_aln0 (p := 6) d_17_5 rfl (zX_gi (p := 9) d_17_6 ow_17 gf_1_101 ht rfl ?_))
    refine zX_cge (p1 := 16) (p2 := 12) d_17_9 (by decide) rfl ?_ ?_
    · refine zX_ic (p := 17) d_17_16 ci_0 rfl ?_
      exact zX_retib d_17_17 rt_17 (Or.inl rfl)
    · refine zX_ic (p := 13) d_17_12 ci_1 rfl (zX_goto (p := 17) d_17_13 (by decide) ?_)
      exact zX_retib d_17_17 rt_17 (Or.inr rfl)

theorem s16 {q : ZQ} {d : Nat} (hL : zLay q) {a1 : Int32} {a2 : Int32} {a3 : Int32} {M : ZI} : zX q (d + 1) 16 0 [.val (.ref 0), .val (.int a1), .val (.int a2), .val (.int a3)] [] M (f16_canBeSet a1 a2 a3 M) (zEi M) := by
  unfold f16_canBeSet
  refine zX_iln1 (p := 1) d_16_0 rfl ?_
  refine zX_ite (fun hs1_0 => ?_) (fun hs1_0 => ?_)
  · refine zX_tsh (p := 40) (n := 0) d_16_1 hs1_0 (by decide) (by decide) (by decide) rfl (by decide) ?_
    refine zX_iln3 (p := 41) d_16_40 rfl (zX_ic (p := 42) d_16_41 ci_0 rfl (zX_bi (p := 44) d_16_42 cb_24 rfl (zX_cS3i (p := 47) d_16_44 ow_16 rs_0_61 kk_13 rfl (s13 hL) rfl rfl rfl rfl (fun v1 => ?_))))
    exact zX_retig d_16_47 rt_16
  refine zX_ite (fun hs1_1 => ?_) (fun hs1_1 => ?_)
  · refine zX_tsh (p := 40) (n := 1) d_16_1 hs1_1 (by decide) (by decide) (by decide) rfl (by decide) ?_
    refine zX_iln3 (p := 41) d_16_40 rfl (zX_ic (p := 42) d_16_41 ci_0 rfl (zX_bi (p := 44) d_16_42 cb_24 rfl (zX_cS3i (p := 47) d_16_44 ow_16 rs_0_61 kk_13 rfl (s13 hL) rfl rfl rfl rfl (fun v2 => ?_))))
    exact zX_retig d_16_47 rt_16
  refine zX_ite (fun hs1_2 => ?_) (fun hs1_2 => ?_)
  · refine zX_tsh (p := 48) (n := 2) d_16_1 hs1_2 (by decide) (by decide) (by decide) rfl (by decide) ?_
    refine zX_iln3 (p := 49) d_16_48 rfl (zX_ic (p := 50) d_16_49 ci_1 rfl (zX_bi (p := 52) d_16_50 cb_24 rfl (zX_cS3i (p := 55) d_16_52 ow_16 rs_0_61 kk_13 rfl (s13 hL) rfl rfl rfl rfl (fun v3 => ?_))))
    exact zX_retig d_16_55 rt_16
  refine zX_ite (fun hs1_3 => ?_) (fun hs1_3 => ?_)
  · refine zX_tsh (p := 56) (n := 3) d_16_1 hs1_3 (by decide) (by decide) (by decide) rfl (by decide) ?_
    refine zX_aln0 (p := 57) d_16_56 rfl (zX_gr (p := 60) (b := 1) d_16_57 ow_16 gf_0_10 zo_0 (zr_0_0 hL zo_0) rfl (zX_iln2 (p := 61) d_16_60 rfl (zX_cV1i (p := 64) ⟨ow_17, by decide, zdr_17⟩ zo_1 d_16_61 ow_16 rs_0_94 kk_17 rfl (s17 hL zo_1) rfl rfl rfl rfl (fun v4 => ?_))))
    refine zX_zeq (p1 := 81) (p2 := 67) d_16_64 (by decide) rfl ?_ ?_
    · refine zX_ic (p := 82) d_16_81 ci_0 rfl ?_
      exact zX_retib d_16_82 rt_16 (Or.inl rfl)
    · refine zX_iln3 (p := 68) d_16_67 rfl (zX_ic (p := 69) d_16_68 ci_0 rfl (zX_bi (p := 71) d_16_69 cb_24 rfl (zX_cS3i (p := 74) d_16_71 ow_16 rs_0_61 kk_13 rfl (s13 hL) rfl rfl rfl rfl (fun v5 => ?_))))
      refine zX_zeq (p1 := 81) (p2 := 77) d_16_74 (by decide) rfl ?_ ?_
      · refine zX_ic (p := 82) d_16_81 ci_0 rfl ?_
        exact zX_retib d_16_82 rt_16 (Or.inl rfl)
      · refine zX_ic (p := 78) d_16_77 ci_1 rfl (zX_goto (p := 82) d_16_78 (by decide) ?_)
        exact zX_retib d_16_82 rt_16 (Or.inr rfl)
  refine zX_ite (fun hs1_4 => ?_) (fun hs1_4 => ?_)
  · refine zX_tsh (p := 83) (n := 4) d_16_1 hs1_4 (by decide) (by decide) (by decide) rfl (by decide) ?_
    refine zX_aln0 (p := 84) d_16_83 rfl (zX_gr (p := 87) (b := 1) d_16_84 ow_16 gf_0_10 zo_0 (zr_0_0 hL zo_0) rfl (zX_iln2 (p := 88) d_16_87 rfl (zX_cV1i (p := 91) ⟨ow_17, by decide, zdr_17⟩ zo_1 d_16_88 ow_16 rs_0_94 kk_17 rfl (s17 hL zo_1) rfl rfl rfl rfl (fun v6 => ?_))))
    refine zX_zeq (p1 := 109) (p2 := 94) d_16_91 (by decide) rfl ?_ ?_
    · refine zX_ic (p := 110) d_16_109 ci_0 rfl ?_
      exact zX_retib d_16_110 rt_16 (Or.inl rfl)
    · refine zX_iln3 (p := 95) d_16_94 rfl (zX_ic (p := 96) d_16_95 ci_0 rfl (zX_si (p := 99) d_16_96 cs_999 rfl (zX_cS3i (p := 102) d_16_99 ow_16 rs_0_61 kk_13 rfl (s13 hL) rfl rfl rfl rfl (fun v7 => ?_))))
      refine zX_zeq (p1 := 109) (p2 := 105) d_16_102 (by decide) rfl ?_ ?_
      · refine zX_ic (p := 110) d_16_109 ci_0 rfl ?_
        exact zX_retib d_16_110 rt_16 (Or.inl rfl)
      · refine zX_ic (p := 106) d_16_105 ci_1 rfl (zX_goto (p := 110) d_16_106 (by decide) ?_)
        exact zX_retib d_16_110 rt_16 (Or.inr rfl)
  refine zX_ite (fun hs1_5 => ?_) (fun hs1_5 => ?_)
  · refine zX_tsh (p := 111) (n := 5) d_16_1 hs1_5 (by decide) (by decide) (by decide) rfl (by decide) ?_
    refine zX_aln0 (p := 112) d_16_111 rfl (zX_gr (p := 115) (b := 1) d_16_112 ow_16 gf_0_10 zo_0 (zr_0_0 hL zo_0) rfl (zX_iln2 (p := 116) d_16_115 rfl (zX_cV1i (p := 119) ⟨ow_17, by decide, zdr_17⟩ zo_1 d_16_116 ow_16 rs_0_94 kk_17 rfl (s17 hL zo_1) rfl rfl rfl rfl (fun v8 => ?_))))
    refine zX_zeq (p1 := 136) (p2 := 122) d_16_119 (by decide) rfl ?_ ?_
    · refine zX_ic (p := 137) d_16_136 ci_0 rfl ?_
      exact zX_retib d_16_137 rt_16 (Or.inl rfl)
    · refine zX_iln3 (p := 123) d_16_122 rfl (zX_ic (p := 124) d_16_123 ci_0 rfl (zX_bi (p := 126) d_16_124 cb_99 rfl (zX_cS3i (p := 129) d_16_126 ow_16 rs_0_61 kk_13 rfl (s13 hL) rfl rfl rfl rfl (fun v9 => ?_))))
      refine zX_zeq (p1 := 136) (p2 := 132) d_16_129 (by decide) rfl ?_ ?_
      · refine zX_ic (p := 137) d_16_136 ci_0 rfl ?_
        exact zX_retib d_16_137 rt_16 (Or.inl rfl)
      · refine zX_ic (p := 133) d_16_132 ci_1 rfl (zX_goto (p := 137) d_16_133 (by decide) ?_)
        exact zX_retib d_16_137 rt_16 (Or.inr rfl)
  have hz1 : (a1 : Int32).toInt < 0 ∨ 5 < (a1 : Int32).toInt := by
    have := zne_i (n := 0) (by decide) hs1_0
    have := zne_i (n := 1) (by decide) hs1_1
    have := zne_i (n := 2) (by decide) hs1_2
    have := zne_i (n := 3) (by decide) hs1_3
    have := zne_i (n := 4) (by decide) hs1_4
    have := zne_i (n := 5) (by decide) hs1_5
    omega
  refine zX_tsd (p := 138) d_16_1 hz1 (by decide) ?_
  refine zX_ic (p := 139) d_16_138 ci_0 rfl ?_
  exact zX_retib d_16_139 rt_16 (Or.inl rfl)

theorem s15 {q : ZQ} {d : Nat} (hL : zLay q) {a1 : Int32} {a2 : Int32} {a3 : Int32} {M : ZI} : zX q (d + 2) 15 0 [.val (.ref 0), .val (.int a1), .val (.int a2), .val (.int a3)] [] M (f15_set a1 a2 a3 M) zEm := by
  unfold f15_set
  refine zX_aln0 (p := 1) d_15_0 rfl (zX_iln1 (p := 2) d_15_1 rfl (zX_iln2 (p := 3) d_15_2 rfl (zX_iln3 (p := 4) d_15_3 rfl (zX_cV3i (p := 7) ⟨ow_16, by decide, zdr_16⟩ zo_0 d_15_4 ow_15 rs_0_72 kk_16 rfl (s16 hL) rfl rfl rfl rfl (fun v1 => ?_)))))
  refine zX_zne (p1 := 12) (p2 := 10) d_15_7 (by decide) rfl ?_ ?_
  · refine zX_aln0 (p := 13) d_15_12 rfl (zX_cV0v (p := 16) ⟨ow_11, by decide, zdr_11⟩ zo_0 d_15_13 ow_15 rs_0_58 kk_11 rfl (s11 hL) rfl rfl rfl rfl (fun M2 => ?_))
    refine zX_iln1 (p := 17) d_15_16 rfl ?_
    refine zX_ite (fun hs17_0 => ?_) (fun hs17_0 => ?_)
    · refine zX_tsh (p := 52) (n := 0) d_15_17 hs17_0 (by decide) (by decide) (by decide) rfl (by decide) ?_
      refine zX_aln0 (p := 53) d_15_52 rfl (zX_gr (p := 56) (b := 1) d_15_53 ow_15 gf_0_10 zo_0 (zr_0_0 hL zo_0) rfl (zX_gr (p := 59) (b := 2) d_15_56 ow_15 gf_0_52 zo_1 (zr_1_0 hL zo_1) rfl (zX_iln3 (p := 60) d_15_59 rfl (zX_pi (p := 63) d_15_60 ow_15 gf_0_75 zo_2 rfl (fun M3 => ?_)))))
      refine zX_goto (p := 127) d_15_63 (by decide) (zX_ic (p := 128) d_15_127 ci_1 rfl ?_)
      exact zX_retmb d_15_128 rt_15 (Or.inr rfl)
    refine zX_ite (fun hs17_1 => ?_) (fun hs17_1 => ?_)
    · refine zX_tsh (p := 66) (n := 1) d_15_17 hs17_1 (by decide) (by decide) (by decide) rfl (by decide) ?_
      refine zX_aln0 (p := 67) d_15_66 rfl (zX_gr (p := 70) (b := 1) d_15_67 ow_15 gf_0_10 zo_0 (zr_0_0 hL zo_0) rfl (zX_iln3 (p := 71) d_15_70 rfl (zX_pi (p := 74) d_15_71 ow_15 gf_0_78 zo_1 rfl (fun M4 => ?_))))
      refine zX_goto (p := 127) d_15_74 (by decide) (zX_ic (p := 128) d_15_127 ci_1 rfl ?_)
      exact zX_retmb d_15_128 rt_15 (Or.inr rfl)
    refine zX_ite (fun hs17_2 => ?_) (fun hs17_2 => ?_)
    · refine zX_tsh (p := 77) (n := 2) d_15_17 hs17_2 (by decide) (by decide) (by decide) rfl (by decide) ?_
      refine zX_aln0 (p := 78) d_15_77 rfl (zX_gr (p := 81) (b := 1) d_15_78 ow_15 gf_0_10 zo_0 (zr_0_0 hL zo_0) rfl (zX_iln3 (p := 82) d_15_81 rfl (zX_pi (p := 85) d_15_82 ow_15 gf_0_81 zo_1 rfl (fun M5 => ?_))))
      refine zX_goto (p := 127) d_15_85 (by decide) (zX_ic (p := 128) d_15_127 ci_1 rfl ?_)
      exact zX_retmb d_15_128 rt_15 (Or.inr rfl)
    refine zX_ite (fun hs17_3 => ?_) (fun hs17_3 => ?_)
    · refine zX_tsh (p := 88) (n := 3) d_15_17 hs17_3 (by decide) (by decide) (by decide) rfl (by decide) ?_
      refine zX_aln0 (p := 89) d_15_88 rfl (zX_gr (p := 92) (b := 1) d_15_89 ow_15 gf_0_10 zo_0 (zr_0_0 hL zo_0) rfl (zX_gr (p := 95) (b := 37) d_15_92 ow_15 gf_0_84 zo_1 (zr_1_6 hL zo_1) rfl (zX_iln2 (p := 96) d_15_95 rfl (zX_iln3 (p := 97) d_15_96 rfl (zX_itg (p := 98) d_15_97 za_37 rfl (fun M6 => ?_))))))
      refine zX_goto (p := 127) d_15_98 (by decide) (zX_ic (p := 128) d_15_127 ci_1 rfl ?_)
      exact zX_retmb d_15_128 rt_15 (Or.inr rfl)
    refine zX_ite (fun hs17_4 => ?_) (fun hs17_4 => ?_)
    · refine zX_tsh (p := 101) (n := 4) d_15_17 hs17_4 (by decide) (by decide) (by decide) rfl (by decide) ?_
      refine zX_aln0 (p := 102) d_15_101 rfl (zX_gr (p := 105) (b := 1) d_15_102 ow_15 gf_0_10 zo_0 (zr_0_0 hL zo_0) rfl (zX_gr (p := 108) (b := 38) d_15_105 ow_15 gf_0_88 zo_1 (zr_1_7 hL zo_1) rfl (zX_iln2 (p := 109) d_15_108 rfl (zX_iln3 (p := 110) d_15_109 rfl (zX_itg (p := 111) d_15_110 za_38 rfl (fun M7 => ?_))))))
      refine zX_goto (p := 127) d_15_111 (by decide) (zX_ic (p := 128) d_15_127 ci_1 rfl ?_)
      exact zX_retmb d_15_128 rt_15 (Or.inr rfl)
    have hz17 : (a1 : Int32).toInt < 0 ∨ 4 < (a1 : Int32).toInt := by
      have := zne_i (n := 0) (by decide) hs17_0
      have := zne_i (n := 1) (by decide) hs17_1
      have := zne_i (n := 2) (by decide) hs17_2
      have := zne_i (n := 3) (by decide) hs17_3
      have := zne_i (n := 4) (by decide) hs17_4
      omega
    refine zX_tsd (p := 114) d_15_17 hz17 (by decide) ?_
    refine zX_aln0 (p := 115) d_15_114 rfl (zX_gr (p := 118) (b := 1) d_15_115 ow_15 gf_0_10 zo_0 (zr_0_0 hL zo_0) rfl (zX_gr (p := 121) (b := 2) d_15_118 ow_15 gf_0_52 zo_1 (zr_1_0 hL zo_1) rfl (zX_gr (p := 124) (b := 3) d_15_121 ow_15 gf_0_91 zo_2 (zr_2_0 hL zo_2) rfl (zX_iln2 (p := 125) d_15_124 rfl (zX_iln3 (p := 126) d_15_125 rfl (zX_itg (p := 127) d_15_126 za_3 rfl (fun M8 => ?_)))))))
    refine zX_ic (p := 128) d_15_127 ci_1 rfl ?_
    exact zX_retmb d_15_128 rt_15 (Or.inr rfl)
  · refine zX_ic (p := 11) d_15_10 ci_0 rfl ?_
    exact zX_retmb d_15_11 rt_15 (Or.inl rfl)

theorem s19 {q : ZQ} {d : Nat} (hL : zLay q) {a0 : Int32} {a1 : Int32} {M : ZI} : zX q d 19 0 [.val (.int a0), .val (.int a1)] [] M (f19_isIn a0 a1) (zEi M) := by
  unfold f19_isIn
  refine zX_iln0 (p := 1) d_19_0 rfl (zX_iln1 (p := 2) d_19_1 rfl (zX_shr (p := 3) d_19_2 rfl (zX_ic (p := 4) d_19_3 ci_1 rfl (zX_and (p := 5) d_19_4 rfl (zX_ic (p := 6) d_19_5 ci_1 rfl ?_)))))
  refine zX_cne (p1 := 13) (p2 := 9) d_19_6 (by decide) rfl ?_ ?_
  · refine zX_ic (p := 14) d_19_13 ci_0 rfl ?_
    exact zX_retib d_19_14 rt_19 (Or.inl rfl)
  · refine zX_ic (p := 10) d_19_9 ci_1 rfl (zX_goto (p := 14) d_19_10 (by decide) ?_)
    exact zX_retib d_19_14 rt_19 (Or.inr rfl)

theorem s21 {q : ZQ} {d : Nat} (hL : zLay q) {t : Nat} {a1 : Nat} {M : ZI} (ht : zOb 2 t) (ha1 : zOb 2 a1) : zX q d 21 0 [.val (.ref t), .val (.ref a1)] [] M (f21_copy t a1 M) zEv := by
  unfold f21_copy
  refine zX_aln1 (p := 1) d_21_0 rfl (zX_nn_ref (p := 5) d_21_1 (by decide) (zX_aln1 (p := 6) d_21_5 rfl (zX_gr (p := 9) (b := (a1 + 1)) d_21_6 ow_21 gf_2_9 ha1 (zr_2_0 hL ha1) rfl (zX_ic (p := 10) d_21_9 ci_0 rfl (zX_aln0 (p := 11) d_21_10 rfl (zX_gr (p := 14) (b := (t + 1)) d_21_11 ow_21 gf_2_9 ht (zr_2_0 hL ht) rfl (zX_ic (p := 15) d_21_14 ci_0 rfl ?_)))))))
  refine zX_bi (p := 17) d_21_15 cb_10 rfl (zX_cpy (p := 20) d_21_17 ow_21 rs_2_24 (zsa_2_0 ht) (zsa_2_0 ha1) ⟨by decide, by decide, by decide⟩ ⟨by decide, by decide, by decide⟩ ⟨by decide, by decide⟩ rfl rfl (fun M1 => ?_))
  refine zX_aln1 (p := 21) d_21_20 rfl (zX_gr (p := 24) (b := (a1 + 2)) d_21_21 ow_21 gf_2_15 ha1 (zr_2_1 hL ha1) rfl (zX_ic (p := 25) d_21_24 ci_0 rfl (zX_aln0 (p := 26) d_21_25 rfl (zX_gr (p := 29) (b := (t + 2)) d_21_26 ow_21 gf_2_15 ht (zr_2_1 hL ht) rfl (zX_ic (p := 30) d_21_29 ci_0 rfl (zX_bi (p := 32) d_21_30 cb_10 rfl (zX_cpy (p := 35) d_21_32 ow_21 rs_2_24 (zsa_2_1 ht) (zsa_2_1 ha1) ⟨by decide, by decide, by decide⟩ ⟨by decide, by decide, by decide⟩ ⟨by decide, by decide⟩ rfl rfl (fun M2 => ?_))))))))
  refine zX_aln1 (p := 36) d_21_35 rfl (zX_gr (p := 39) (b := (a1 + 3)) d_21_36 ow_21 gf_2_18 ha1 (zr_2_2 hL ha1) rfl (zX_ic (p := 40) d_21_39 ci_0 rfl (zX_aln0 (p := 41) d_21_40 rfl (zX_gr (p := 44) (b := (t + 3)) d_21_41 ow_21 gf_2_18 ht (zr_2_2 hL ht) rfl (zX_ic (p := 45) d_21_44 ci_0 rfl (zX_bi (p := 47) d_21_45 cb_10 rfl (zX_cpy (p := 50) d_21_47 ow_21 rs_2_24 (zsa_2_2 ht) (zsa_2_2 ha1) ⟨by decide, by decide, by decide⟩ ⟨by decide, by decide, by decide⟩ ⟨by decide, by decide⟩ rfl rfl (fun M3 => ?_))))))))
  refine zX_aln1 (p := 51) d_21_50 rfl (zX_gr (p := 54) (b := (a1 + 4)) d_21_51 ow_21 gf_2_21 ha1 (zr_2_3 hL ha1) rfl (zX_ic (p := 55) d_21_54 ci_0 rfl (zX_aln0 (p := 56) d_21_55 rfl (zX_gr (p := 59) (b := (t + 4)) d_21_56 ow_21 gf_2_21 ht (zr_2_3 hL ht) rfl (zX_ic (p := 60) d_21_59 ci_0 rfl (zX_bi (p := 62) d_21_60 cb_10 rfl (zX_cpy (p := 65) d_21_62 ow_21 rs_2_24 (zsa_2_3 ht) (zsa_2_3 ha1) ⟨by decide, by decide, by decide⟩ ⟨by decide, by decide, by decide⟩ ⟨by decide, by decide⟩ rfl rfl (fun M4 => ?_))))))))
  refine zX_aln0 (p := 66) d_21_65 rfl (zX_aln1 (p := 67) d_21_66 rfl (zX_gi (p := 70) d_21_67 ow_21 gf_2_30 ha1 rfl (zX_pi (p := 73) d_21_70 ow_21 gf_2_30 ht rfl (fun M5 => ?_))))
  refine zX_aln0 (p := 74) d_21_73 rfl (zX_aln1 (p := 75) d_21_74 rfl (zX_gi (p := 78) d_21_75 ow_21 gf_2_34 ha1 rfl (zX_pi (p := 81) d_21_78 ow_21 gf_2_34 ht rfl (fun M6 => ?_))))
  refine zX_aln0 (p := 82) d_21_81 rfl (zX_aln1 (p := 83) d_21_82 rfl (zX_gi (p := 86) d_21_83 ow_21 gf_2_37 ha1 rfl (zX_pi (p := 89) d_21_86 ow_21 gf_2_37 ht rfl (fun M7 => ?_))))
  refine zX_aln0 (p := 90) d_21_89 rfl (zX_aln1 (p := 91) d_21_90 rfl (zX_gi (p := 94) d_21_91 ow_21 gf_2_40 ha1 rfl (zX_pi (p := 97) d_21_94 ow_21 gf_2_40 ht rfl (fun M8 => ?_))))
  refine zX_aln0 (p := 98) d_21_97 rfl (zX_aln1 (p := 99) d_21_98 rfl (zX_gi (p := 102) d_21_99 ow_21 gf_2_43 ha1 rfl (zX_pi (p := 105) d_21_102 ow_21 gf_2_43 ht rfl (fun M9 => ?_))))
  refine zX_aln0 (p := 106) d_21_105 rfl (zX_aln1 (p := 107) d_21_106 rfl (zX_gi (p := 110) d_21_107 ow_21 gf_2_46 ha1 rfl (zX_pi (p := 113) d_21_110 ow_21 gf_2_46 ht rfl (fun M10 => ?_))))
  refine zX_aln0 (p := 114) d_21_113 rfl (zX_aln1 (p := 115) d_21_114 rfl (zX_gi (p := 118) d_21_115 ow_21 gf_2_49 ha1 rfl (zX_pi (p := 121) d_21_118 ow_21 gf_2_49 ht rfl (fun M11 => ?_))))
  exact zX_retv d_21_121 rt_21

theorem s20 {q : ZQ} {d : Nat} (hL : zLay q) {M : ZI} : zX q (d + 1) 20 0 [.val (.ref 0), .unset] [] M (f20_keepPast M) zEv := by
  unfold f20_keepPast
  refine zX_aln0 (p := 1) d_20_0 rfl (zX_gi (p := 4) d_20_1 ow_20 gf_0_34 zo_0 rfl (zX_bi (p := 6) d_20_4 cb_6 rfl ?_))
  refine zX_bind (σ := Unit) (β := ZI) (pj := 32) (lj := fun (b : ZI) (s : Unit) => [.val (.ref 0), .unset]) (sj := fun b => []) (mj := fun b => b) ?_ ?_
  · refine zX_cne (p1 := 32) (p2 := 9) d_20_6 (by decide) rfl ?_ ?_
    · exact zX_leaf (fun _ _ h => h ())
    · refine zX_aln0 (p := 10) d_20_9 rfl (zX_aln0 (p := 11) d_20_10 rfl (zX_gi (p := 14) d_20_11 ow_20 gf_0_30 zo_0 rfl (zX_ic (p := 15) d_20_14 ci_1 rfl (zX_add (p := 16) d_20_15 rfl (zX_bi (p := 18) d_20_16 cb_6 rfl (zX_rem (p := 19) d_20_18 (by decide) rfl (zX_pi (p := 22) d_20_19 ow_20 gf_0_30 zo_0 rfl (fun M1 => ?_))))))))
      refine zX_aln0 (p := 23) d_20_22 rfl (zX_dup (p := 24) d_20_23 rfl rfl (zX_gi (p := 27) d_20_24 ow_20 gf_0_34 zo_0 rfl (zX_ic (p := 28) d_20_27 ci_1 rfl (zX_sub (p := 29) d_20_28 rfl (zX_pi (p := 32) d_20_29 ow_20 gf_0_34 zo_0 rfl (fun M2 => ?_))))))
      exact zX_leaf (fun _ _ h => h ())
  · rintro M3 _
    try dsimp only
    refine zX_aln0 (p := 33) d_20_32 rfl (zX_gr (p := 36) (b := 83) d_20_33 ow_20 gf_0_25 zo_0 (zr_0_3 hL zo_0) rfl (zX_aln0 (p := 37) d_20_36 rfl (zX_gi (p := 40) d_20_37 ow_20 gf_0_30 zo_0 rfl (zX_aln0 (p := 41) d_20_40 rfl (zX_gi (p := 44) d_20_41 ow_20 gf_0_34 zo_0 rfl (zX_add (p := 45) d_20_44 rfl (zX_bi (p := 47) d_20_45 cb_6 rfl ?_)))))))
    refine zX_rem (p := 48) d_20_47 (by decide) rfl ?_
    refine zX_grd (fun hg4 => ?_)
    refine zX_aa (p := 49) (b := (zpa (zrem ((M3 0 4) + (M3 0 5)) (6 : Int32)))) d_20_48 zp_83 rfl hg4 (zr_pa hL hg4) (zX_asn1 (p := 50) d_20_49 rfl (zX_aln1 (p := 51) d_20_50 rfl (zX_nu_ref (p := 54) d_20_51 rfl (zX_aln1 (p := 55) d_20_54 rfl (zX_aln0 (p := 56) d_20_55 rfl (zX_gr (p := 59) (b := 1) d_20_56 ow_20 gf_0_10 zo_0 (zr_0_0 hL zo_0) rfl (zX_gr (p := 62) (b := 2) d_20_59 ow_20 gf_0_52 zo_1 (zr_1_0 hL zo_1) rfl ?_)))))))
    refine zX_cV1v (p := 65) ⟨ow_21, by decide, zdr_21⟩ (zo_pa hg4) d_20_62 ow_20 rs_0_269 kk_21 rfl (s21 hL (zo_pa hg4) zo_2) rfl rfl rfl rfl (fun M5 => ?_)
    refine zX_aln0 (p := 66) d_20_65 rfl (zX_dup (p := 67) d_20_66 rfl rfl (zX_gi (p := 70) d_20_67 ow_20 gf_0_34 zo_0 rfl (zX_ic (p := 71) d_20_70 ci_1 rfl (zX_add (p := 72) d_20_71 rfl (zX_pi (p := 75) d_20_72 ow_20 gf_0_34 zo_0 rfl (fun M6 => ?_))))))
    exact zX_retv d_20_75 rt_20

theorem s18 {q : ZQ} {d : Nat} (hL : zLay q) {a1 : Int32} {a2 : Int32} {a3 : Int32} {M : ZI} : zX q (d + 2) 18 0 [.val (.ref 0), .val (.int a1), .val (.int a2), .val (.int a3)] [] M (f18_tie a1 a2 a3 M) zEm := by
  unfold f18_tie
  refine zX_aln0 (p := 1) d_18_0 rfl (zX_gr (p := 4) (b := 1) d_18_1 ow_18 gf_0_10 zo_0 (zr_0_0 hL zo_0) rfl (zX_iln1 (p := 5) d_18_4 rfl (zX_cV1i (p := 8) ⟨ow_17, by decide, zdr_17⟩ zo_1 d_18_5 ow_18 rs_0_94 kk_17 rfl (s17 hL zo_1) rfl rfl rfl rfl (fun v1 => ?_))))
  refine zX_zeq (p1 := 27) (p2 := 11) d_18_8 (by decide) rfl ?_ ?_
  · refine zX_ic (p := 28) d_18_27 ci_0 rfl ?_
    exact zX_retmb d_18_28 rt_18 (Or.inl rfl)
  · refine zX_aln0 (p := 12) d_18_11 rfl (zX_gr (p := 15) (b := 1) d_18_12 ow_18 gf_0_10 zo_0 (zr_0_0 hL zo_0) rfl (zX_iln2 (p := 16) d_18_15 rfl (zX_cV1i (p := 19) ⟨ow_17, by decide, zdr_17⟩ zo_1 d_18_16 ow_18 rs_0_94 kk_17 rfl (s17 hL zo_1) rfl rfl rfl rfl (fun v2 => ?_))))
    refine zX_zeq (p1 := 27) (p2 := 22) d_18_19 (by decide) rfl ?_ ?_
    · refine zX_ic (p := 28) d_18_27 ci_0 rfl ?_
      exact zX_retmb d_18_28 rt_18 (Or.inl rfl)
    · refine zX_iln1 (p := 23) d_18_22 rfl (zX_iln2 (p := 24) d_18_23 rfl ?_)
      refine zX_cne (p1 := 29) (p2 := 27) d_18_24 (by decide) rfl ?_ ?_
      · refine zX_aln0 (p := 30) d_18_29 rfl (zX_gr (p := 33) (b := 1) d_18_30 ow_18 gf_0_10 zo_0 (zr_0_0 hL zo_0) rfl (zX_gr (p := 36) (b := 2) d_18_33 ow_18 gf_0_52 zo_1 (zr_1_0 hL zo_1) rfl (zX_gr (p := 39) (b := 6) d_18_36 ow_18 gf_0_98 zo_2 (zr_2_3 hL zo_2) rfl (zX_iln1 (p := 40) d_18_39 rfl (zX_iag (p := 41) d_18_40 za_6 rfl (zX_iln2 (p := 42) d_18_41 rfl (zX_cS2i (p := 45) d_18_42 ow_18 rs_0_101 kk_19 rfl (s19 hL) rfl rfl rfl rfl (fun v3 => ?_))))))))
        refine zX_iln3 (p := 46) d_18_45 rfl ?_
        refine zX_cne (p1 := 51) (p2 := 49) d_18_46 (by decide) rfl ?_ ?_
        · refine zX_aln0 (p := 52) d_18_51 rfl (zX_cV0v (p := 55) ⟨ow_20, by decide, zdr_20⟩ zo_0 d_18_52 ow_18 rs_0_105 kk_20 rfl (s20 hL) rfl rfl rfl rfl (fun M4 => ?_))
          refine zX_aln0 (p := 56) d_18_55 rfl (zX_gr (p := 59) (b := 1) d_18_56 ow_18 gf_0_10 zo_0 (zr_0_0 hL zo_0) rfl (zX_gr (p := 62) (b := 2) d_18_59 ow_18 gf_0_52 zo_1 (zr_1_0 hL zo_1) rfl (zX_gr (p := 65) (b := 6) d_18_62 ow_18 gf_0_98 zo_2 (zr_2_3 hL zo_2) rfl (zX_iln1 (p := 66) d_18_65 rfl (zX_dup2 (p := 67) d_18_66 rfl rfl rfl (zX_iag (p := 68) d_18_67 za_6 rfl (zX_ic (p := 69) d_18_68 ci_1 rfl ?_)))))))
          refine zX_iln2 (p := 70) d_18_69 rfl (zX_shl (p := 71) d_18_70 rfl (zX_xor (p := 72) d_18_71 rfl (zX_itg (p := 73) d_18_72 za_6 rfl (fun M5 => ?_))))
          refine zX_aln0 (p := 74) d_18_73 rfl (zX_gr (p := 77) (b := 1) d_18_74 ow_18 gf_0_10 zo_0 (zr_0_0 hL zo_0) rfl (zX_gr (p := 80) (b := 2) d_18_77 ow_18 gf_0_52 zo_1 (zr_1_0 hL zo_1) rfl (zX_gr (p := 83) (b := 6) d_18_80 ow_18 gf_0_98 zo_2 (zr_2_3 hL zo_2) rfl (zX_iln2 (p := 84) d_18_83 rfl (zX_dup2 (p := 85) d_18_84 rfl rfl rfl (zX_iag (p := 86) d_18_85 za_6 rfl (zX_ic (p := 87) d_18_86 ci_1 rfl ?_)))))))
          refine zX_iln1 (p := 88) d_18_87 rfl (zX_shl (p := 89) d_18_88 rfl (zX_xor (p := 90) d_18_89 rfl (zX_itg (p := 91) d_18_90 za_6 rfl (fun M6 => ?_))))
          refine zX_ic (p := 92) d_18_91 ci_1 rfl ?_
          exact zX_retmb d_18_92 rt_18 (Or.inr rfl)
        · refine zX_ic (p := 50) d_18_49 ci_0 rfl ?_
          exact zX_retmb d_18_50 rt_18 (Or.inl rfl)
      · refine zX_ic (p := 28) d_18_27 ci_0 rfl ?_
        exact zX_retmb d_18_28 rt_18 (Or.inl rfl)

theorem s23 {q : ZQ} {d : Nat} (hL : zLay q) {t : Nat} {a1 : Int32} {M : ZI} (ht : zOb 2 t) : zX q d 23 0 [.val (.ref t), .val (.int a1)] [] M (f23_wearBy t a1 M) zEv := by
  unfold f23_wearBy
  refine zX_aln0 (p := 1) d_23_0 rfl (zX_bi (p := 3) d_23_1 cb_24 rfl (zX_aln0 (p := 4) d_23_3 rfl (zX_gi (p := 7) d_23_4 ow_23 gf_2_30 ht rfl (zX_iln1 (p := 8) d_23_7 rfl (zX_add (p := 9) d_23_8 rfl (zX_min (p := 12) d_23_9 ow_23 rs_2_52 rfl rfl (zX_pi (p := 15) d_23_12 ow_23 gf_2_30 ht rfl (fun M1 => ?_))))))))
  exact zX_retv d_23_15 rt_23

theorem s22 {q : ZQ} {d : Nat} (hL : zLay q) {a1 : Int32} {M : ZI} : zX q (d + 2) 22 0 [.val (.ref 0), .val (.int a1)] [] M (f22_sit a1 M) zEm := by
  unfold f22_sit
  refine zX_iln1 (p := 1) d_22_0 rfl (zX_ic (p := 2) d_22_1 ci_1 rfl (zX_bi (p := 4) d_22_2 cb_24 rfl (zX_cS3i (p := 7) d_22_4 ow_22 rs_0_61 kk_13 rfl (s13 hL) rfl rfl rfl rfl (fun v1 => ?_))))
  refine zX_zne (p1 := 12) (p2 := 10) d_22_7 (by decide) rfl ?_ ?_
  · refine zX_aln0 (p := 13) d_22_12 rfl (zX_cV0v (p := 16) ⟨ow_20, by decide, zdr_20⟩ zo_0 d_22_13 ow_22 rs_0_105 kk_20 rfl (s20 hL) rfl rfl rfl rfl (fun M2 => ?_))
    refine zX_aln0 (p := 17) d_22_16 rfl (zX_gr (p := 20) (b := 1) d_22_17 ow_22 gf_0_10 zo_0 (zr_0_0 hL zo_0) rfl (zX_gr (p := 23) (b := 2) d_22_20 ow_22 gf_0_52 zo_1 (zr_1_0 hL zo_1) rfl (zX_iln1 (p := 24) d_22_23 rfl (zX_cV1v (p := 27) ⟨ow_23, by decide, zdr_23⟩ zo_2 d_22_24 ow_22 rs_0_108 kk_23 rfl (s23 hL zo_2) rfl rfl rfl rfl (fun M3 => ?_)))))
    refine zX_aln0 (p := 28) d_22_27 rfl (zX_gr (p := 31) (b := 1) d_22_28 ow_22 gf_0_10 zo_0 (zr_0_0 hL zo_0) rfl (zX_gr (p := 34) (b := 2) d_22_31 ow_22 gf_0_52 zo_1 (zr_1_0 hL zo_1) rfl (zX_gi (p := 37) d_22_34 ow_22 gf_0_75 zo_2 rfl ?_)))
    exact zX_retm d_22_37 rt_22
  · refine zX_ic (p := 11) d_22_10 ci_m1 rfl ?_
    exact zX_retm d_22_11 rt_22

theorem s28 {q : ZQ} {d : Nat} (hL : zLay q) {a0 : Int32} {M : ZI} : zX q d 28 0 [.val (.int a0)] [] M (f28_bitCount a0) (zEi M) := by
  unfold f28_bitCount
  refine zX_iln0 (p := 1) d_28_0 rfl (zX_iln0 (p := 2) d_28_1 rfl (zX_ic (p := 3) d_28_2 ci_1 rfl (zX_ush (p := 4) d_28_3 rfl (zX_ldcw (p := 7) d_28_4 ow_28 kn_16_265 rfl (zX_and (p := 8) d_28_7 rfl (zX_sub (p := 9) d_28_8 rfl (zX_jsn0 (p := 10) d_28_9 rfl (fun x1 => ?_))))))))
  refine zX_iln0 (p := 11) d_28_10 rfl (zX_ldcw (p := 14) d_28_11 ow_28 kn_16_266 rfl (zX_and (p := 15) d_28_14 rfl (zX_iln0 (p := 16) d_28_15 rfl (zX_ic (p := 17) d_28_16 ci_2 rfl (zX_ush (p := 18) d_28_17 rfl (zX_ldcw (p := 21) d_28_18 ow_28 kn_16_266 rfl (zX_and (p := 22) d_28_21 rfl ?_)))))))
  refine zX_add (p := 23) d_28_22 rfl (zX_jsn0 (p := 24) d_28_23 rfl (fun x2 => ?_))
  refine zX_iln0 (p := 25) d_28_24 rfl (zX_iln0 (p := 26) d_28_25 rfl (zX_ic (p := 27) d_28_26 ci_4 rfl (zX_ush (p := 28) d_28_27 rfl (zX_add (p := 29) d_28_28 rfl (zX_ldcw (p := 32) d_28_29 ow_28 kn_16_267 rfl (zX_and (p := 33) d_28_32 rfl (zX_jsn0 (p := 34) d_28_33 rfl (fun x3 => ?_))))))))
  refine zX_iln0 (p := 35) d_28_34 rfl (zX_iln0 (p := 36) d_28_35 rfl (zX_bi (p := 38) d_28_36 cb_8 rfl (zX_ush (p := 39) d_28_38 rfl (zX_add (p := 40) d_28_39 rfl (zX_jsn0 (p := 41) d_28_40 rfl (fun x4 => ?_))))))
  refine zX_iln0 (p := 42) d_28_41 rfl (zX_iln0 (p := 43) d_28_42 rfl (zX_bi (p := 45) d_28_43 cb_16 rfl (zX_ush (p := 46) d_28_45 rfl (zX_add (p := 47) d_28_46 rfl (zX_jsn0 (p := 48) d_28_47 rfl (fun x5 => ?_))))))
  refine zX_iln0 (p := 49) d_28_48 rfl (zX_bi (p := 51) d_28_49 cb_63 rfl (zX_and (p := 52) d_28_51 rfl ?_))
  exact zX_reti d_28_52 rt_28

theorem s31 {q : ZQ} {d : Nat} (hL : zLay q) {a0 : Int32} {M : ZI} : zX q d 31 0 [.val (.int a0)] [] M (f31_isValue a0) (zEi M) := by
  unfold f31_isValue
  refine zX_iln0 (p := 1) d_31_0 rfl (zX_bi (p := 3) d_31_1 cb_m2 rfl ?_)
  refine zX_ceq (p1 := 27) (p2 := 6) d_31_3 (by decide) rfl ?_ ?_
  · refine zX_ic (p := 28) d_31_27 ci_1 rfl (zX_goto (p := 32) d_31_28 (by decide) ?_)
    exact zX_retib d_31_32 rt_31 (Or.inr rfl)
  · refine zX_iln0 (p := 7) d_31_6 rfl (zX_si (p := 10) d_31_7 cs_300 rfl ?_)
    refine zX_ceq (p1 := 27) (p2 := 13) d_31_10 (by decide) rfl ?_ ?_
    · refine zX_ic (p := 28) d_31_27 ci_1 rfl (zX_goto (p := 32) d_31_28 (by decide) ?_)
      exact zX_retib d_31_32 rt_31 (Or.inr rfl)
    · refine zX_iln0 (p := 14) d_31_13 rfl (zX_si (p := 17) d_31_14 cs_301 rfl ?_)
      refine zX_ceq (p1 := 27) (p2 := 20) d_31_17 (by decide) rfl ?_ ?_
      · refine zX_ic (p := 28) d_31_27 ci_1 rfl (zX_goto (p := 32) d_31_28 (by decide) ?_)
        exact zX_retib d_31_32 rt_31 (Or.inr rfl)
      · refine zX_iln0 (p := 21) d_31_20 rfl (zX_si (p := 24) d_31_21 cs_279 rfl ?_)
        refine zX_cne (p1 := 31) (p2 := 27) d_31_24 (by decide) rfl ?_ ?_
        · refine zX_ic (p := 32) d_31_31 ci_0 rfl ?_
          exact zX_retib d_31_32 rt_31 (Or.inl rfl)
        · refine zX_ic (p := 28) d_31_27 ci_1 rfl (zX_goto (p := 32) d_31_28 (by decide) ?_)
          exact zX_retib d_31_32 rt_31 (Or.inr rfl)

theorem s32 {q : ZQ} {d : Nat} (hL : zLay q) {a0 : Int32} {a1 : Int32} {a2 : Nat} {a3 : Int32} {M : ZI} (ha2 : zAr a2 (zal a2)) : zX q (d + 1) 32 0 [.val (.int a0), .val (.int a1), .val (.ref a2), .val (.int a3)] [] M (f32_value a0 a1 a2 a3 M) (zEi M) := by
  unfold f32_value
  refine zX_iln0 (p := 1) d_32_0 rfl ?_
  refine zX_ite (fun hs1_0 => ?_) (fun hs1_0 => ?_)
  · refine zX_lsh (p := 36) (n := -2) d_32_1 hs1_0 (by decide) (by decide) rfl (by decide) ?_
    refine zX_iln1 (p := 37) d_32_36 rfl ?_
    exact zX_reti d_32_37 rt_32
  refine zX_ite (fun hs1_1 => ?_) (fun hs1_1 => ?_)
  · refine zX_lsh (p := 38) (n := 300) d_32_1 hs1_1 (by decide) (by decide) rfl (by decide) ?_
    refine zX_aln2 (p := 39) d_32_38 rfl (zX_nu_ref (p := 42) d_32_39 rfl (zX_iln1 (p := 43) d_32_42 rfl ?_))
    refine zX_zlt (p1 := 58) (p2 := 46) d_32_43 (by decide) rfl ?_ ?_
    · refine zX_ic (p := 59) d_32_58 ci_0 rfl ?_
      exact zX_reti d_32_59 rt_32
    · refine zX_iln1 (p := 47) d_32_46 rfl (zX_aln2 (p := 48) d_32_47 rfl (zX_len (p := 49) d_32_48 ha2 rfl ?_))
      refine zX_cge (p1 := 58) (p2 := 52) d_32_49 (by decide) rfl ?_ ?_
      · refine zX_ic (p := 59) d_32_58 ci_0 rfl ?_
        exact zX_reti d_32_59 rt_32
      · refine zX_aln2 (p := 53) d_32_52 rfl (zX_iln1 (p := 54) d_32_53 rfl (zX_iag (p := 55) d_32_54 ha2 rfl (zX_goto (p := 59) d_32_55 (by decide) ?_)))
        exact zX_reti d_32_59 rt_32
  refine zX_ite (fun hs1_2 => ?_) (fun hs1_2 => ?_)
  · refine zX_lsh (p := 60) (n := 301) d_32_1 hs1_2 (by decide) (by decide) rfl (by decide) ?_
    refine zX_iln3 (p := 61) d_32_60 rfl (zX_iln1 (p := 62) d_32_61 rfl (zX_shr (p := 63) d_32_62 rfl (zX_ic (p := 64) d_32_63 ci_1 rfl (zX_and (p := 65) d_32_64 rfl ?_))))
    exact zX_reti d_32_65 rt_32
  refine zX_lsd (p := 66) d_32_1 (by decide) (by simp only [Array.toList]; simp [Op.lookupswitch.offset, Ne.symm (zne_i (n := -2) (by decide) hs1_0), Ne.symm (zne_i (n := 300) (by decide) hs1_1), Ne.symm (zne_i (n := 301) (by decide) hs1_2)]) (by decide) ?_
  refine zX_iln3 (p := 67) d_32_66 rfl (zX_cS1i (p := 70) d_32_67 ow_32 rs_5_52 kk_28 rfl (s28 hL) rfl rfl rfl rfl (fun v1 => ?_))
  refine zX_iln1 (p := 71) d_32_70 rfl ?_
  refine zX_clt (p1 := 78) (p2 := 74) d_32_71 (by decide) rfl ?_ ?_
  · refine zX_ic (p := 79) d_32_78 ci_0 rfl ?_
    exact zX_reti d_32_79 rt_32
  · refine zX_ic (p := 75) d_32_74 ci_1 rfl (zX_goto (p := 79) d_32_75 (by decide) ?_)
    exact zX_reti d_32_79 rt_32

theorem s32n {q : ZQ} {d : Nat} (hL : zLay q) {a0 : Int32} {a1 : Int32} {a3 : Int32} {M : ZI} : zX q (d + 1) 32 0 [.val (.int a0), .val (.int a1), .val .null, .val (.int a3)] [] M (f32_valuen a0 a1 a3 M) (zEi M) := by
  unfold f32_valuen
  refine zX_iln0 (p := 1) d_32_0 rfl ?_
  refine zX_ite (fun hs1_0 => ?_) (fun hs1_0 => ?_)
  · refine zX_lsh (p := 36) (n := -2) d_32_1 hs1_0 (by decide) (by decide) rfl (by decide) ?_
    refine zX_iln1 (p := 37) d_32_36 rfl ?_
    exact zX_reti d_32_37 rt_32
  refine zX_ite (fun hs1_1 => ?_) (fun hs1_1 => ?_)
  · refine zX_lsh (p := 38) (n := 300) d_32_1 hs1_1 (by decide) (by decide) rfl (by decide) ?_
    refine zX_ann2 (p := 39) d_32_38 rfl (zX_nu_null (p := 58) d_32_39 (by decide) (zX_ic (p := 59) d_32_58 ci_0 rfl ?_))
    exact zX_reti d_32_59 rt_32
  refine zX_ite (fun hs1_2 => ?_) (fun hs1_2 => ?_)
  · refine zX_lsh (p := 60) (n := 301) d_32_1 hs1_2 (by decide) (by decide) rfl (by decide) ?_
    refine zX_iln3 (p := 61) d_32_60 rfl (zX_iln1 (p := 62) d_32_61 rfl (zX_shr (p := 63) d_32_62 rfl (zX_ic (p := 64) d_32_63 ci_1 rfl (zX_and (p := 65) d_32_64 rfl ?_))))
    exact zX_reti d_32_65 rt_32
  refine zX_lsd (p := 66) d_32_1 (by decide) (by simp only [Array.toList]; simp [Op.lookupswitch.offset, Ne.symm (zne_i (n := -2) (by decide) hs1_0), Ne.symm (zne_i (n := 300) (by decide) hs1_1), Ne.symm (zne_i (n := 301) (by decide) hs1_2)]) (by decide) ?_
  refine zX_iln3 (p := 67) d_32_66 rfl (zX_cS1i (p := 70) d_32_67 ow_32 rs_5_52 kk_28 rfl (s28 hL) rfl rfl rfl rfl (fun v1 => ?_))
  refine zX_iln1 (p := 71) d_32_70 rfl ?_
  refine zX_clt (p1 := 78) (p2 := 74) d_32_71 (by decide) rfl ?_ ?_
  · refine zX_ic (p := 79) d_32_78 ci_0 rfl ?_
    exact zX_reti d_32_79 rt_32
  · refine zX_ic (p := 75) d_32_74 ci_1 rfl (zX_goto (p := 79) d_32_75 (by decide) ?_)
    exact zX_reti d_32_79 rt_32

theorem s33 {q : ZQ} {d : Nat} (hL : zLay q) {a0 : Int32} {a1 : Int32} {a2 : Int32} {M : ZI} : zX q d 33 0 [.val (.int a0), .val (.int a1), .val (.int a2)] [] M (f33_changed a0 a1 a2) (zEi M) := by
  unfold f33_changed
  refine zX_iln0 (p := 1) d_33_0 rfl (zX_si (p := 4) d_33_1 cs_262 rfl ?_)
  refine zX_cne (p1 := 11) (p2 := 7) d_33_4 (by decide) rfl ?_ ?_
  · refine zX_iln1 (p := 12) d_33_11 rfl ?_
    refine zX_zne (p1 := 19) (p2 := 15) d_33_12 (by decide) rfl ?_ ?_
    · refine zX_iln2 (p := 20) d_33_19 rfl (zX_iln1 (p := 21) d_33_20 rfl (zX_divg (p := 22) d_33_21 rfl ?_))
      exact zX_reti d_33_22 rt_33
    · refine zX_ic (p := 16) d_33_15 ci_0 rfl (zX_goto (p := 22) d_33_16 (by decide) ?_)
      exact zX_reti d_33_22 rt_33
  · refine zX_ic (p := 8) d_33_7 ci_1 rfl (zX_iln2 (p := 9) d_33_8 rfl (zX_sub (p := 10) d_33_9 rfl ?_))
    exact zX_reti d_33_10 rt_33

theorem s34 {q : ZQ} {d : Nat} (hL : zLay q) {a0 : Int32} {a1 : Int32} {a2 : Int32} {M : ZI} : zX q d 34 0 [.val (.int a0), .val (.int a1), .val (.int a2)] [] M (f34_joined a0 a1 a2) (zEi M) := by
  unfold f34_joined
  refine zX_iln0 (p := 1) d_34_0 rfl ?_
  refine zX_ite (fun hs1_0 => ?_) (fun hs1_0 => ?_)
  · refine zX_lsh (p := 76) (n := 42) d_34_1 hs1_0 (by decide) (by decide) rfl (by decide) ?_
    refine zX_iln1 (p := 77) d_34_76 rfl (zX_iln2 (p := 78) d_34_77 rfl (zX_mul (p := 79) d_34_78 rfl ?_))
    exact zX_reti d_34_79 rt_34
  refine zX_ite (fun hs1_1 => ?_) (fun hs1_1 => ?_)
  · refine zX_lsh (p := 68) (n := 43) d_34_1 hs1_1 (by decide) (by decide) rfl (by decide) ?_
    refine zX_iln1 (p := 69) d_34_68 rfl (zX_iln2 (p := 70) d_34_69 rfl (zX_add (p := 71) d_34_70 rfl ?_))
    exact zX_reti d_34_71 rt_34
  refine zX_ite (fun hs1_2 => ?_) (fun hs1_2 => ?_)
  · refine zX_lsh (p := 72) (n := 45) d_34_1 hs1_2 (by decide) (by decide) rfl (by decide) ?_
    refine zX_iln1 (p := 73) d_34_72 rfl (zX_iln2 (p := 74) d_34_73 rfl (zX_sub (p := 75) d_34_74 rfl ?_))
    exact zX_reti d_34_75 rt_34
  refine zX_ite (fun hs1_3 => ?_) (fun hs1_3 => ?_)
  · refine zX_lsh (p := 80) (n := 60) d_34_1 hs1_3 (by decide) (by decide) rfl (by decide) ?_
    refine zX_iln1 (p := 81) d_34_80 rfl (zX_iln2 (p := 82) d_34_81 rfl ?_)
    refine zX_cge (p1 := 89) (p2 := 85) d_34_82 (by decide) rfl ?_ ?_
    · refine zX_ic (p := 90) d_34_89 ci_0 rfl ?_
      exact zX_reti d_34_90 rt_34
    · refine zX_ic (p := 86) d_34_85 ci_1 rfl (zX_goto (p := 90) d_34_86 (by decide) ?_)
      exact zX_reti d_34_90 rt_34
  refine zX_ite (fun hs1_4 => ?_) (fun hs1_4 => ?_)
  · refine zX_lsh (p := 91) (n := 61) d_34_1 hs1_4 (by decide) (by decide) rfl (by decide) ?_
    refine zX_iln1 (p := 92) d_34_91 rfl (zX_iln2 (p := 93) d_34_92 rfl ?_)
    refine zX_cne (p1 := 100) (p2 := 96) d_34_93 (by decide) rfl ?_ ?_
    · refine zX_ic (p := 101) d_34_100 ci_0 rfl ?_
      exact zX_reti d_34_101 rt_34
    · refine zX_ic (p := 97) d_34_96 ci_1 rfl (zX_goto (p := 101) d_34_97 (by decide) ?_)
      exact zX_reti d_34_101 rt_34
  refine zX_ite (fun hs1_5 => ?_) (fun hs1_5 => ?_)
  · refine zX_lsh (p := 102) (n := 62) d_34_1 hs1_5 (by decide) (by decide) rfl (by decide) ?_
    refine zX_iln1 (p := 103) d_34_102 rfl (zX_iln2 (p := 104) d_34_103 rfl ?_)
    refine zX_cle (p1 := 111) (p2 := 107) d_34_104 (by decide) rfl ?_ ?_
    · refine zX_ic (p := 112) d_34_111 ci_0 rfl ?_
      exact zX_reti d_34_112 rt_34
    · refine zX_ic (p := 108) d_34_107 ci_1 rfl (zX_goto (p := 112) d_34_108 (by decide) ?_)
      exact zX_reti d_34_112 rt_34
  refine zX_ite (fun hs1_6 => ?_) (fun hs1_6 => ?_)
  · refine zX_lsh (p := 113) (n := 261) d_34_1 hs1_6 (by decide) (by decide) rfl (by decide) ?_
    refine zX_iln1 (p := 114) d_34_113 rfl (zX_iln2 (p := 115) d_34_114 rfl (zX_and (p := 116) d_34_115 rfl ?_))
    exact zX_reti d_34_116 rt_34
  refine zX_lsd (p := 117) d_34_1 (by decide) (by simp only [Array.toList]; simp [Op.lookupswitch.offset, Ne.symm (zne_i (n := 42) (by decide) hs1_0), Ne.symm (zne_i (n := 43) (by decide) hs1_1), Ne.symm (zne_i (n := 45) (by decide) hs1_2), Ne.symm (zne_i (n := 60) (by decide) hs1_3), Ne.symm (zne_i (n := 61) (by decide) hs1_4), Ne.symm (zne_i (n := 62) (by decide) hs1_5), Ne.symm (zne_i (n := 261) (by decide) hs1_6)]) (by decide) ?_
  refine zX_iln1 (p := 118) d_34_117 rfl (zX_iln2 (p := 119) d_34_118 rfl (zX_or (p := 120) d_34_119 rfl ?_))
  exact zX_reti d_34_120 rt_34

theorem s30_l10 {q : ZQ} {d : Nat} (hL : zLay q) {t : Nat} {a1 : Int32} {a2 : Int32} {a3 : Nat} {a4 : Int32} (ht : zOb 5 t) (ha3 : zAr a3 (zal a3)) : ∀ (n : Nat) (x2 : Int32) (x3 : Int32) (M5 : ZI) (s4 : Slot), zX q (d + 2) 30 10 [.val (.ref t), .val (.int a1), .val (.int a2), .val (.ref a3), .val (.int a4), .val (.int x2), .val (.int x3), s4] [] M5 (f30_l10 t a2 a3 a4 n x2 x3 M5) (zEj q (d + 2) 30 175 (fun (b : Int32 × ZI) (s : Slot × Slot) => [.val (.ref t), .val (.int a1), .val (.int a2), .val (.ref a3), .val (.int a4), .val (.int b.1), s.1, s.2]) (fun b => []) (fun b => b.2)) := by
  intro n
  induction n with
  | zero => intros; exact zX_none
  | succ n ih =>
    intro x2 x3 M5 s4
    rw [f30_l10]
    refine zX_il6 (p := 12) d_30_10 rfl (zX_iln2 (p := 13) d_30_12 rfl ?_)
    refine zX_cge (p1 := 175) (p2 := 16) d_30_13 (by decide) rfl ?_ ?_
    · exact zX_leaf (fun _ _ h => h (.val (.int x3), s4))
    · refine zX_il6 (p := 18) d_30_16 rfl (zX_aln0 (p := 19) d_30_18 rfl (zX_gi (p := 22) d_30_19 ow_30 gf_5_27 ht rfl ?_))
      refine zX_cge (p1 := 175) (p2 := 25) d_30_22 (by decide) rfl ?_ ?_
      · exact zX_leaf (fun _ _ h => h (.val (.int x3), s4))
      · refine zX_aln0 (p := 26) d_30_25 rfl (zX_gr (p := 29) (b := (t + 1)) d_30_26 ow_30 gf_5_9 ht (zr_5_0 hL ht) rfl (zX_il6 (p := 31) d_30_29 rfl (zX_iag (p := 32) d_30_31 (zsa_5_0 ht) rfl (zX_js7 (p := 34) d_30_32 rfl (fun x6 => ?_)))))
        refine zX_il7 (p := 36) d_30_34 rfl (zX_cS1i (p := 39) d_30_36 ow_30 rs_5_37 kk_31 rfl (s31 hL) rfl rfl rfl rfl (fun v7 => ?_))
        refine zX_zeq (p1 := 77) (p2 := 42) d_30_39 (by decide) rfl ?_ ?_
        · refine zX_il7 (p := 79) d_30_77 rfl (zX_bi (p := 81) d_30_79 cb_47 rfl ?_)
          refine zX_jn (P := fun g => ∀ (x8 : Int32) (x9 : Int32) (M10 : ZI), zX q (d + 2) 30 92 [.val (.ref t), .val (.int a1), .val (.int a2), .val (.ref a3), .val (.int a4), .val (.int x8), .val (.int x9), .val (.int x6)] [] M10 (g x8 x9 M10) (zEj q (d + 2) 30 175 (fun (b : Int32 × ZI) (s : Slot × Slot) => [.val (.ref t), .val (.int a1), .val (.int a2), .val (.ref a3), .val (.int a4), .val (.int b.1), s.1, s.2]) (fun b => []) (fun b => b.2))) ?_ (fun j13 hj13 => ?_)
          · intro x8 x9 M10
            try dsimp only
            refine zX_il5 (p := 94) d_30_92 rfl ?_
            refine zX_zle (p1 := 169) (p2 := 97) d_30_94 (by decide) rfl ?_ ?_
            · refine zX_ii6 (p := 172) d_30_169 ci_1 rfl (zX_goto (p := 10) d_30_172 (by decide) ?_)
              exact ih x8 (x9 + (1 : Int32)) M10 (.val (.int x6))
            · refine zX_aln0 (p := 98) d_30_97 rfl (zX_gr (p := 101) (b := (t + 3)) d_30_98 ow_30 gf_5_18 ht (zr_5_2 hL ht) rfl (zX_il5 (p := 103) d_30_101 rfl (zX_ic (p := 104) d_30_103 ci_1 rfl (zX_sub (p := 105) d_30_104 rfl (zX_il7 (p := 107) d_30_105 rfl (zX_aln0 (p := 108) d_30_107 rfl (zX_gr (p := 111) (b := (t + 2)) d_30_108 ow_30 gf_5_15 ht (zr_5_1 hL ht) rfl ?_)))))))
              refine zX_il6 (p := 113) d_30_111 rfl (zX_iag (p := 114) d_30_113 (zsa_5_1 ht) rfl (zX_aln0 (p := 115) d_30_114 rfl (zX_gr (p := 118) (b := (t + 3)) d_30_115 ow_30 gf_5_18 ht (zr_5_2 hL ht) rfl (zX_il5 (p := 120) d_30_118 rfl (zX_ic (p := 121) d_30_120 ci_1 rfl (zX_sub (p := 122) d_30_121 rfl (zX_iag (p := 123) d_30_122 (zsa_5_2 ht) rfl ?_)))))))
              refine zX_cS3i (p := 126) d_30_123 ow_30 rs_5_45 kk_33 rfl (s33 hL) rfl rfl rfl rfl (fun v11 => ?_)
              refine zX_itg (p := 127) d_30_126 (zsa_5_2 ht) rfl (fun M12 => ?_)
              refine zX_goto (p := 169) d_30_127 (by decide) (zX_ii6 (p := 172) d_30_169 ci_1 rfl (zX_goto (p := 10) d_30_172 (by decide) ?_))
              exact ih x8 (x9 + (1 : Int32)) M12 (.val (.int x6))
          · refine zX_ceq (p1 := 92) (p2 := 84) d_30_81 (by decide) rfl ?_ ?_
            · exact hj13 x2 x3 M5
            · refine zX_il7 (p := 86) d_30_84 rfl (zX_si (p := 89) d_30_86 cs_262 rfl ?_)
              refine zX_cne (p1 := 130) (p2 := 92) d_30_89 (by decide) rfl ?_ ?_
              · refine zX_il5 (p := 132) d_30_130 rfl (zX_ic (p := 133) d_30_132 ci_1 rfl ?_)
                refine zX_cle (p1 := 169) (p2 := 136) d_30_133 (by decide) rfl ?_ ?_
                · refine zX_ii6 (p := 172) d_30_169 ci_1 rfl (zX_goto (p := 10) d_30_172 (by decide) ?_)
                  exact ih x2 (x3 + (1 : Int32)) M5 (.val (.int x6))
                · refine zX_ii5 (p := 139) d_30_136 ci_m1 rfl (zX_aln0 (p := 140) d_30_139 rfl (zX_gr (p := 143) (b := (t + 3)) d_30_140 ow_30 gf_5_18 ht (zr_5_2 hL ht) rfl (zX_il5 (p := 145) d_30_143 rfl (zX_ic (p := 146) d_30_145 ci_1 rfl (zX_sub (p := 147) d_30_146 rfl (zX_il7 (p := 149) d_30_147 rfl (zX_aln0 (p := 150) d_30_149 rfl ?_)))))))
                  refine zX_gr (p := 153) (b := (t + 3)) d_30_150 ow_30 gf_5_18 ht (zr_5_2 hL ht) rfl (zX_il5 (p := 155) d_30_153 rfl (zX_ic (p := 156) d_30_155 ci_1 rfl (zX_sub (p := 157) d_30_156 rfl (zX_iag (p := 158) d_30_157 (zsa_5_2 ht) rfl (zX_aln0 (p := 159) d_30_158 rfl (zX_gr (p := 162) (b := (t + 3)) d_30_159 ow_30 gf_5_18 ht (zr_5_2 hL ht) rfl (zX_il5 (p := 164) d_30_162 rfl ?_)))))))
                  refine zX_iag (p := 165) d_30_164 (zsa_5_2 ht) rfl (zX_cS3i (p := 168) d_30_165 ow_30 rs_5_49 kk_34 rfl (s34 hL) rfl rfl rfl rfl (fun v14 => ?_))
                  refine zX_itg (p := 169) d_30_168 (zsa_5_2 ht) rfl (fun M15 => ?_)
                  refine zX_ii6 (p := 172) d_30_169 ci_1 rfl (zX_goto (p := 10) d_30_172 (by decide) ?_)
                  exact ih (x2 + (-1 : Int32)) (x3 + (1 : Int32)) M15 (.val (.int x6))
              · exact hj13 x2 x3 M5
        · refine zX_il5 (p := 44) d_30_42 rfl (zX_bi (p := 46) d_30_44 cb_64 rfl ?_)
          refine zX_cge (p1 := 169) (p2 := 49) d_30_46 (by decide) rfl ?_ ?_
          · refine zX_ii6 (p := 172) d_30_169 ci_1 rfl (zX_goto (p := 10) d_30_172 (by decide) ?_)
            exact ih x2 (x3 + (1 : Int32)) M5 (.val (.int x6))
          · refine zX_aln0 (p := 50) d_30_49 rfl (zX_gr (p := 53) (b := (t + 3)) d_30_50 ow_30 gf_5_18 ht (zr_5_2 hL ht) rfl (zX_il5 (p := 55) d_30_53 rfl (zX_il7 (p := 57) d_30_55 rfl (zX_aln0 (p := 58) d_30_57 rfl (zX_gr (p := 61) (b := (t + 2)) d_30_58 ow_30 gf_5_15 ht (zr_5_1 hL ht) rfl (zX_il6 (p := 63) d_30_61 rfl (zX_iag (p := 64) d_30_63 (zsa_5_1 ht) rfl ?_)))))))
            refine zX_aln3 (p := 65) d_30_64 rfl (zX_il4 (p := 67) d_30_65 rfl (zX_cS4i (p := 70) d_30_67 ow_30 rs_5_41 kk_32 rfl (s32 hL (zAr_al ha3).1) rfl rfl rfl rfl (fun v16 => ?_)))
            refine zX_itg (p := 71) d_30_70 (zsa_5_2 ht) rfl (fun M17 => ?_)
            refine zX_ii5 (p := 74) d_30_71 ci_1 rfl (zX_goto (p := 169) d_30_74 (by decide) (zX_ii6 (p := 172) d_30_169 ci_1 rfl (zX_goto (p := 10) d_30_172 (by decide) ?_)))
            exact ih (x2 + (1 : Int32)) (x3 + (1 : Int32)) M17 (.val (.int x6))

theorem s30 {q : ZQ} {d : Nat} (hL : zLay q) {t : Nat} {a1 : Int32} {a2 : Int32} {a3 : Nat} {a4 : Int32} {M : ZI} (ht : zOb 5 t) (ha3 : zAr a3 (zal a3)) : zX q (d + 2) 30 0 [.val (.ref t), .val (.int a1), .val (.int a2), .val (.ref a3), .val (.int a4), .unset, .unset, .unset] [] M (f30_run t a1 a2 a3 a4 M) zEm := by
  unfold f30_run
  refine zX_ic (p := 1) d_30_0 ci_0 rfl (zX_is5 (p := 3) d_30_1 rfl (zX_iln1 (p := 4) d_30_3 rfl (zX_ic (p := 5) d_30_4 ci_0 rfl (zX_max (p := 8) d_30_5 ow_30 rs_5_31 rfl rfl (zX_js6 (p := 10) d_30_8 rfl (fun x1 => ?_))))))
  refine zX_bind (s30_l10 hL ht ha3 zfu (0 : Int32) x1 M (.unset)) ?_
  rintro ⟨x18, M19⟩ ⟨s20, s21⟩
  try dsimp only
  refine zX_il5 (p := 177) d_30_175 rfl ?_
  refine zX_zle (p1 := 192) (p2 := 180) d_30_177 (by decide) rfl ?_ ?_
  · refine zX_ic (p := 193) d_30_192 ci_0 rfl ?_
    exact zX_retm d_30_193 rt_30
  · refine zX_aln0 (p := 181) d_30_180 rfl (zX_gr (p := 184) (b := (t + 3)) d_30_181 ow_30 gf_5_18 ht (zr_5_2 hL ht) rfl (zX_il5 (p := 186) d_30_184 rfl (zX_ic (p := 187) d_30_186 ci_1 rfl (zX_sub (p := 188) d_30_187 rfl (zX_iag (p := 189) d_30_188 (zsa_5_2 ht) rfl (zX_goto (p := 193) d_30_189 (by decide) ?_))))))
    exact zX_retm d_30_193 rt_30

theorem s30_l10n {q : ZQ} {d : Nat} (hL : zLay q) {t : Nat} {a1 : Int32} {a2 : Int32} {a4 : Int32} (ht : zOb 5 t) : ∀ (n : Nat) (x2 : Int32) (x3 : Int32) (M5 : ZI) (s4 : Slot), zX q (d + 2) 30 10 [.val (.ref t), .val (.int a1), .val (.int a2), .val .null, .val (.int a4), .val (.int x2), .val (.int x3), s4] [] M5 (f30_l10n t a2 a4 n x2 x3 M5) (zEj q (d + 2) 30 175 (fun (b : Int32 × ZI) (s : Slot × Slot) => [.val (.ref t), .val (.int a1), .val (.int a2), .val .null, .val (.int a4), .val (.int b.1), s.1, s.2]) (fun b => []) (fun b => b.2)) := by
  intro n
  induction n with
  | zero => intros; exact zX_none
  | succ n ih =>
    intro x2 x3 M5 s4
    rw [f30_l10n]
    refine zX_il6 (p := 12) d_30_10 rfl (zX_iln2 (p := 13) d_30_12 rfl ?_)
    refine zX_cge (p1 := 175) (p2 := 16) d_30_13 (by decide) rfl ?_ ?_
    · exact zX_leaf (fun _ _ h => h (.val (.int x3), s4))
    · refine zX_il6 (p := 18) d_30_16 rfl (zX_aln0 (p := 19) d_30_18 rfl (zX_gi (p := 22) d_30_19 ow_30 gf_5_27 ht rfl ?_))
      refine zX_cge (p1 := 175) (p2 := 25) d_30_22 (by decide) rfl ?_ ?_
      · exact zX_leaf (fun _ _ h => h (.val (.int x3), s4))
      · refine zX_aln0 (p := 26) d_30_25 rfl (zX_gr (p := 29) (b := (t + 1)) d_30_26 ow_30 gf_5_9 ht (zr_5_0 hL ht) rfl (zX_il6 (p := 31) d_30_29 rfl (zX_iag (p := 32) d_30_31 (zsa_5_0 ht) rfl (zX_js7 (p := 34) d_30_32 rfl (fun x6 => ?_)))))
        refine zX_il7 (p := 36) d_30_34 rfl (zX_cS1i (p := 39) d_30_36 ow_30 rs_5_37 kk_31 rfl (s31 hL) rfl rfl rfl rfl (fun v7 => ?_))
        refine zX_zeq (p1 := 77) (p2 := 42) d_30_39 (by decide) rfl ?_ ?_
        · refine zX_il7 (p := 79) d_30_77 rfl (zX_bi (p := 81) d_30_79 cb_47 rfl ?_)
          refine zX_jn (P := fun g => ∀ (x8 : Int32) (x9 : Int32) (M10 : ZI), zX q (d + 2) 30 92 [.val (.ref t), .val (.int a1), .val (.int a2), .val .null, .val (.int a4), .val (.int x8), .val (.int x9), .val (.int x6)] [] M10 (g x8 x9 M10) (zEj q (d + 2) 30 175 (fun (b : Int32 × ZI) (s : Slot × Slot) => [.val (.ref t), .val (.int a1), .val (.int a2), .val .null, .val (.int a4), .val (.int b.1), s.1, s.2]) (fun b => []) (fun b => b.2))) ?_ (fun j13 hj13 => ?_)
          · intro x8 x9 M10
            try dsimp only
            refine zX_il5 (p := 94) d_30_92 rfl ?_
            refine zX_zle (p1 := 169) (p2 := 97) d_30_94 (by decide) rfl ?_ ?_
            · refine zX_ii6 (p := 172) d_30_169 ci_1 rfl (zX_goto (p := 10) d_30_172 (by decide) ?_)
              exact ih x8 (x9 + (1 : Int32)) M10 (.val (.int x6))
            · refine zX_aln0 (p := 98) d_30_97 rfl (zX_gr (p := 101) (b := (t + 3)) d_30_98 ow_30 gf_5_18 ht (zr_5_2 hL ht) rfl (zX_il5 (p := 103) d_30_101 rfl (zX_ic (p := 104) d_30_103 ci_1 rfl (zX_sub (p := 105) d_30_104 rfl (zX_il7 (p := 107) d_30_105 rfl (zX_aln0 (p := 108) d_30_107 rfl (zX_gr (p := 111) (b := (t + 2)) d_30_108 ow_30 gf_5_15 ht (zr_5_1 hL ht) rfl ?_)))))))
              refine zX_il6 (p := 113) d_30_111 rfl (zX_iag (p := 114) d_30_113 (zsa_5_1 ht) rfl (zX_aln0 (p := 115) d_30_114 rfl (zX_gr (p := 118) (b := (t + 3)) d_30_115 ow_30 gf_5_18 ht (zr_5_2 hL ht) rfl (zX_il5 (p := 120) d_30_118 rfl (zX_ic (p := 121) d_30_120 ci_1 rfl (zX_sub (p := 122) d_30_121 rfl (zX_iag (p := 123) d_30_122 (zsa_5_2 ht) rfl ?_)))))))
              refine zX_cS3i (p := 126) d_30_123 ow_30 rs_5_45 kk_33 rfl (s33 hL) rfl rfl rfl rfl (fun v11 => ?_)
              refine zX_itg (p := 127) d_30_126 (zsa_5_2 ht) rfl (fun M12 => ?_)
              refine zX_goto (p := 169) d_30_127 (by decide) (zX_ii6 (p := 172) d_30_169 ci_1 rfl (zX_goto (p := 10) d_30_172 (by decide) ?_))
              exact ih x8 (x9 + (1 : Int32)) M12 (.val (.int x6))
          · refine zX_ceq (p1 := 92) (p2 := 84) d_30_81 (by decide) rfl ?_ ?_
            · exact hj13 x2 x3 M5
            · refine zX_il7 (p := 86) d_30_84 rfl (zX_si (p := 89) d_30_86 cs_262 rfl ?_)
              refine zX_cne (p1 := 130) (p2 := 92) d_30_89 (by decide) rfl ?_ ?_
              · refine zX_il5 (p := 132) d_30_130 rfl (zX_ic (p := 133) d_30_132 ci_1 rfl ?_)
                refine zX_cle (p1 := 169) (p2 := 136) d_30_133 (by decide) rfl ?_ ?_
                · refine zX_ii6 (p := 172) d_30_169 ci_1 rfl (zX_goto (p := 10) d_30_172 (by decide) ?_)
                  exact ih x2 (x3 + (1 : Int32)) M5 (.val (.int x6))
                · refine zX_ii5 (p := 139) d_30_136 ci_m1 rfl (zX_aln0 (p := 140) d_30_139 rfl (zX_gr (p := 143) (b := (t + 3)) d_30_140 ow_30 gf_5_18 ht (zr_5_2 hL ht) rfl (zX_il5 (p := 145) d_30_143 rfl (zX_ic (p := 146) d_30_145 ci_1 rfl (zX_sub (p := 147) d_30_146 rfl (zX_il7 (p := 149) d_30_147 rfl (zX_aln0 (p := 150) d_30_149 rfl ?_)))))))
                  refine zX_gr (p := 153) (b := (t + 3)) d_30_150 ow_30 gf_5_18 ht (zr_5_2 hL ht) rfl (zX_il5 (p := 155) d_30_153 rfl (zX_ic (p := 156) d_30_155 ci_1 rfl (zX_sub (p := 157) d_30_156 rfl (zX_iag (p := 158) d_30_157 (zsa_5_2 ht) rfl (zX_aln0 (p := 159) d_30_158 rfl (zX_gr (p := 162) (b := (t + 3)) d_30_159 ow_30 gf_5_18 ht (zr_5_2 hL ht) rfl (zX_il5 (p := 164) d_30_162 rfl ?_)))))))
                  refine zX_iag (p := 165) d_30_164 (zsa_5_2 ht) rfl (zX_cS3i (p := 168) d_30_165 ow_30 rs_5_49 kk_34 rfl (s34 hL) rfl rfl rfl rfl (fun v14 => ?_))
                  refine zX_itg (p := 169) d_30_168 (zsa_5_2 ht) rfl (fun M15 => ?_)
                  refine zX_ii6 (p := 172) d_30_169 ci_1 rfl (zX_goto (p := 10) d_30_172 (by decide) ?_)
                  exact ih (x2 + (-1 : Int32)) (x3 + (1 : Int32)) M15 (.val (.int x6))
              · exact hj13 x2 x3 M5
        · refine zX_il5 (p := 44) d_30_42 rfl (zX_bi (p := 46) d_30_44 cb_64 rfl ?_)
          refine zX_cge (p1 := 169) (p2 := 49) d_30_46 (by decide) rfl ?_ ?_
          · refine zX_ii6 (p := 172) d_30_169 ci_1 rfl (zX_goto (p := 10) d_30_172 (by decide) ?_)
            exact ih x2 (x3 + (1 : Int32)) M5 (.val (.int x6))
          · refine zX_aln0 (p := 50) d_30_49 rfl (zX_gr (p := 53) (b := (t + 3)) d_30_50 ow_30 gf_5_18 ht (zr_5_2 hL ht) rfl (zX_il5 (p := 55) d_30_53 rfl (zX_il7 (p := 57) d_30_55 rfl (zX_aln0 (p := 58) d_30_57 rfl (zX_gr (p := 61) (b := (t + 2)) d_30_58 ow_30 gf_5_15 ht (zr_5_1 hL ht) rfl (zX_il6 (p := 63) d_30_61 rfl (zX_iag (p := 64) d_30_63 (zsa_5_1 ht) rfl ?_)))))))
            refine zX_ann3 (p := 65) d_30_64 rfl (zX_il4 (p := 67) d_30_65 rfl (zX_cS4i (p := 70) d_30_67 ow_30 rs_5_41 kk_32 rfl (s32n hL) rfl rfl rfl rfl (fun v16 => ?_)))
            refine zX_itg (p := 71) d_30_70 (zsa_5_2 ht) rfl (fun M17 => ?_)
            refine zX_ii5 (p := 74) d_30_71 ci_1 rfl (zX_goto (p := 169) d_30_74 (by decide) (zX_ii6 (p := 172) d_30_169 ci_1 rfl (zX_goto (p := 10) d_30_172 (by decide) ?_)))
            exact ih (x2 + (1 : Int32)) (x3 + (1 : Int32)) M17 (.val (.int x6))

theorem s30n {q : ZQ} {d : Nat} (hL : zLay q) {t : Nat} {a1 : Int32} {a2 : Int32} {a4 : Int32} {M : ZI} (ht : zOb 5 t) : zX q (d + 2) 30 0 [.val (.ref t), .val (.int a1), .val (.int a2), .val .null, .val (.int a4), .unset, .unset, .unset] [] M (f30_runn t a1 a2 a4 M) zEm := by
  unfold f30_runn
  refine zX_ic (p := 1) d_30_0 ci_0 rfl (zX_is5 (p := 3) d_30_1 rfl (zX_iln1 (p := 4) d_30_3 rfl (zX_ic (p := 5) d_30_4 ci_0 rfl (zX_max (p := 8) d_30_5 ow_30 rs_5_31 rfl rfl (zX_js6 (p := 10) d_30_8 rfl (fun x1 => ?_))))))
  refine zX_bind (s30_l10n hL ht zfu (0 : Int32) x1 M (.unset)) ?_
  rintro ⟨x18, M19⟩ ⟨s20, s21⟩
  try dsimp only
  refine zX_il5 (p := 177) d_30_175 rfl ?_
  refine zX_zle (p1 := 192) (p2 := 180) d_30_177 (by decide) rfl ?_ ?_
  · refine zX_ic (p := 193) d_30_192 ci_0 rfl ?_
    exact zX_retm d_30_193 rt_30
  · refine zX_aln0 (p := 181) d_30_180 rfl (zX_gr (p := 184) (b := (t + 3)) d_30_181 ow_30 gf_5_18 ht (zr_5_2 hL ht) rfl (zX_il5 (p := 186) d_30_184 rfl (zX_ic (p := 187) d_30_186 ci_1 rfl (zX_sub (p := 188) d_30_187 rfl (zX_iag (p := 189) d_30_188 (zsa_5_2 ht) rfl (zX_goto (p := 193) d_30_189 (by decide) ?_))))))
    exact zX_retm d_30_193 rt_30

theorem s29_l2 {q : ZQ} {d : Nat} (hL : zLay q) {t : Nat} {a1 : Int32} {a2 : Nat} (ht : zOb 4 t) (ha2 : zAr a2 (zal a2)) : ∀ (n : Nat) (x1 : Int32) (M3 : ZI) (s2 : Slot), zX q (d + 3) 29 2 [.val (.ref t), .val (.int a1), .val (.ref a2), .val (.int x1), s2] [] M3 (f29_l2 t a1 a2 n x1 M3) zEm := by
  intro n
  induction n with
  | zero => intros; exact zX_none
  | succ n ih =>
    intro x1 M3 s2
    rw [f29_l2]
    refine zX_iln3 (p := 3) d_29_2 rfl (zX_aln0 (p := 4) d_29_3 rfl (zX_gi (p := 7) d_29_4 ow_29 gf_4_41 ht rfl ?_))
    refine zX_cge (p1 := 99) (p2 := 10) d_29_7 (by decide) rfl ?_ ?_
    · refine zX_iln1 (p := 100) d_29_99 rfl ?_
      refine zX_ite (fun hs100_0 => ?_) (fun hs100_0 => ?_)
      · refine zX_lsh (p := 128) (n := 256) d_29_100 hs100_0 (by decide) (by decide) rfl (by decide) ?_
        refine zX_ic (p := 129) d_29_128 ci_1 rfl ?_
        exact zX_retm d_29_129 rt_29
      refine zX_ite (fun hs100_1 => ?_) (fun hs100_1 => ?_)
      · refine zX_lsh (p := 130) (n := 257) d_29_100 hs100_1 (by decide) (by decide) rfl (by decide) ?_
        refine zX_aln2 (p := 131) d_29_130 rfl (zX_bi (p := 133) d_29_131 cb_8 rfl (zX_iag (p := 134) d_29_133 ha2 rfl (zX_bi (p := 136) d_29_134 cb_8 rfl (zX_div (p := 137) d_29_136 (by decide) rfl ?_))))
        exact zX_retm d_29_137 rt_29
      refine zX_lsd (p := 138) d_29_100 (by decide) (by simp only [Array.toList]; simp [Op.lookupswitch.offset, Ne.symm (zne_i (n := 256) (by decide) hs100_0), Ne.symm (zne_i (n := 257) (by decide) hs100_1)]) (by decide) ?_
      refine zX_bi (p := 140) d_29_138 cb_100 rfl ?_
      exact zX_retm d_29_140 rt_29
    · refine zX_aln0 (p := 11) d_29_10 rfl (zX_gr (p := 14) (b := (t + 7)) d_29_11 ow_29 gf_4_25 ht (zr_4_3 hL ht) rfl (zX_iln3 (p := 15) d_29_14 rfl (zX_iag (p := 16) d_29_15 (zsa_4_3 ht) rfl (zX_aln0 (p := 17) d_29_16 rfl (zX_gr (p := 20) (b := (t + 8)) d_29_17 ow_29 gf_4_28 ht (zr_4_4 hL ht) rfl (zX_iln3 (p := 21) d_29_20 rfl (zX_iag (p := 22) d_29_21 (zsa_4_4 ht) rfl ?_)))))))
      refine zX_bind (σ := Unit) (β := Int32) (pj := 30) (lj := fun (b : Int32) (s : Unit) => [.val (.ref t), .val (.int a1), .val (.ref a2), .val (.int x1), s2]) (sj := fun b => [.int b]) (mj := fun b => M3) ?_ ?_
      · refine zX_cne (p1 := 29) (p2 := 25) d_29_22 (by decide) rfl ?_ ?_
        · refine zX_ic (p := 30) d_29_29 ci_0 rfl ?_
          exact zX_leaf (fun _ _ h => h ())
        · refine zX_ic (p := 26) d_29_25 ci_1 rfl (zX_goto (p := 30) d_29_26 (by decide) ?_)
          exact zX_leaf (fun _ _ h => h ())
      · rintro v4 _
        try dsimp only
        refine zX_is4 (p := 32) d_29_30 rfl (zX_aln0 (p := 33) d_29_32 rfl (zX_gr (p := 36) (b := (t + 5)) d_29_33 ow_29 gf_4_18 ht (zr_4_1 hL ht) rfl (zX_iln3 (p := 37) d_29_36 rfl (zX_iag (p := 38) d_29_37 (zsa_4_1 ht) rfl (zX_iln1 (p := 39) d_29_38 rfl ?_)))))
        refine zX_cne (p1 := 93) (p2 := 42) d_29_39 (by decide) rfl ?_ ?_
        · refine zX_ii3 (p := 96) d_29_93 ci_1 rfl (zX_goto (p := 2) d_29_96 (by decide) ?_)
          exact ih (x1 + (1 : Int32)) M3 (.val (.int v4))
        · refine zX_il4 (p := 44) d_29_42 rfl ?_
          refine zX_jn (P := fun g => ∀ (x5 : Int32) (M6 : ZI), zX q (d + 3) 29 71 [.val (.ref t), .val (.int a1), .val (.ref a2), .val (.int x5), .val (.int v4)] [] M6 (g x5 M6) zEm) ?_ (fun j9 hj9 => ?_)
          · intro x5 M6
            try dsimp only
            refine zX_aln0 (p := 72) d_29_71 rfl (zX_gr (p := 75) (b := (t + 1)) d_29_72 ow_29 gf_4_12 ht (zr_4_0 hL ht) rfl (zX_aln0 (p := 76) d_29_75 rfl (zX_gr (p := 79) (b := (t + 6)) d_29_76 ow_29 gf_4_22 ht (zr_4_2 hL ht) rfl (zX_iln3 (p := 80) d_29_79 rfl (zX_iag (p := 81) d_29_80 (zsa_4_2 ht) rfl (zX_aln0 (p := 82) d_29_81 rfl (zX_gr (p := 85) (b := (t + 7)) d_29_82 ow_29 gf_4_25 ht (zr_4_3 hL ht) rfl ?_)))))))
            refine zX_iln3 (p := 86) d_29_85 rfl (zX_iag (p := 87) d_29_86 (zsa_4_3 ht) rfl (zX_aln2 (p := 88) d_29_87 rfl (zX_ic (p := 89) d_29_88 ci_0 rfl (zX_cV4m (p := 92) ⟨ow_30, by decide, zdr_30⟩ (zso_4_0 ht) d_29_89 ow_29 rs_4_48 kk_30 rfl (s30 hL (zso_4_0 ht) (zAr_al ha2).1) rfl rfl rfl rfl (fun v7 M8 => ?_)))))
            try dsimp only
            exact zX_retm d_29_92 rt_29
          · refine zX_zne (p1 := 71) (p2 := 47) d_29_44 (by decide) rfl ?_ ?_
            · exact hj9 x1 M3
            · refine zX_aln0 (p := 48) d_29_47 rfl (zX_gr (p := 51) (b := (t + 1)) d_29_48 ow_29 gf_4_12 ht (zr_4_0 hL ht) rfl (zX_aln0 (p := 52) d_29_51 rfl (zX_gr (p := 55) (b := (t + 7)) d_29_52 ow_29 gf_4_25 ht (zr_4_3 hL ht) rfl (zX_iln3 (p := 56) d_29_55 rfl (zX_iag (p := 57) d_29_56 (zsa_4_3 ht) rfl (zX_aln0 (p := 58) d_29_57 rfl (zX_gr (p := 61) (b := (t + 8)) d_29_58 ow_29 gf_4_28 ht (zr_4_4 hL ht) rfl ?_)))))))
              refine zX_iln3 (p := 62) d_29_61 rfl (zX_iag (p := 63) d_29_62 (zsa_4_4 ht) rfl (zX_aln2 (p := 64) d_29_63 rfl (zX_ic (p := 65) d_29_64 ci_0 rfl (zX_cV4m (p := 68) ⟨ow_30, by decide, zdr_30⟩ (zso_4_0 ht) d_29_65 ow_29 rs_4_48 kk_30 rfl (s30 hL (zso_4_0 ht) (zAr_al ha2).1) rfl rfl rfl rfl (fun v10 M11 => ?_)))))
              try dsimp only
              refine zX_zeq (p1 := 93) (p2 := 71) d_29_68 (by decide) rfl ?_ ?_
              · refine zX_ii3 (p := 96) d_29_93 ci_1 rfl (zX_goto (p := 2) d_29_96 (by decide) ?_)
                exact ih (x1 + (1 : Int32)) M11 (.val (.int v4))
              · exact hj9 x1 M11

theorem s29 {q : ZQ} {d : Nat} (hL : zLay q) {t : Nat} {a1 : Int32} {a2 : Nat} {M : ZI} (ht : zOb 4 t) (ha2 : zAr a2 (zal a2)) : zX q (d + 3) 29 0 [.val (.ref t), .val (.int a1), .val (.ref a2), .unset, .unset] [] M (f29_tells t a1 a2 M) zEm := by
  unfold f29_tells
  refine zX_ic (p := 1) d_29_0 ci_0 rfl (zX_isn3 (p := 2) d_29_1 rfl ?_)
  exact s29_l2 hL ht ha2 zfu (0 : Int32) M (.unset)

theorem s35 {q : ZQ} {d : Nat} (hL : zLay q) {a0 : Int32} {a1 : Int32} {a2 : Int32} {M : ZI} : zX q d 35 0 [.val (.int a0), .val (.int a1), .val (.int a2)] [] M (f35_held a0 a1 a2) (zEi M) := by
  unfold f35_held
  refine zX_iln1 (p := 1) d_35_0 rfl (zX_iln2 (p := 2) d_35_1 rfl (zX_iln0 (p := 3) d_35_2 rfl (zX_min (p := 6) d_35_3 ow_35 rs_0_318 rfl rfl (zX_max (p := 9) d_35_6 ow_35 rs_0_272 rfl rfl ?_))))
  exact zX_reti d_35_9 rt_35

theorem s27 {q : ZQ} {d : Nat} (hL : zLay q) {t : Nat} {a1 : Nat} {a2 : Int32} {a3 : Int32} {a4 : Int32} {M : ZI} (ht : zOb 1 t) (ha1 : zOb 2 a1) : zX q (d + 4) 27 0 [.val (.ref t), .val (.ref a1), .val (.int a2), .val (.int a3), .val (.int a4)] [] M (f27_asks t a1 a2 a3 a4 M) zEm := by
  unfold f27_asks
  refine zX_aln0 (p := 1) d_27_0 rfl (zX_gr (p := 4) (b := (t + 40)) d_27_1 ow_27 gf_1_66 ht (zr_1_10 hL ht) rfl (zX_ic (p := 5) d_27_4 ci_0 rfl (zX_iln3 (p := 6) d_27_5 rfl (zX_itc (p := 7) d_27_6 (zsa_1_10 ht) rfl zin_0_9 zi_0 (fun M1 => ?_)))))
  refine zX_aln0 (p := 8) d_27_7 rfl (zX_gr (p := 11) (b := (t + 40)) d_27_8 ow_27 gf_1_66 ht (zr_1_10 hL ht) rfl (zX_ic (p := 12) d_27_11 ci_1 rfl (zX_aln1 (p := 13) d_27_12 rfl (zX_gr (p := 16) (b := (a1 + 1)) d_27_13 ow_27 gf_1_110 ha1 (zr_2_0 hL ha1) rfl (zX_iln3 (p := 17) d_27_16 rfl (zX_iag (p := 18) d_27_17 (zsa_2_0 ha1) rfl (zX_itc (p := 19) d_27_18 (zsa_1_10 ht) rfl zin_1_9 zi_1 (fun M2 => ?_))))))))
  refine zX_aln0 (p := 20) d_27_19 rfl (zX_gr (p := 23) (b := (t + 40)) d_27_20 ow_27 gf_1_66 ht (zr_1_10 hL ht) rfl (zX_ic (p := 24) d_27_23 ci_2 rfl (zX_aln0 (p := 25) d_27_24 rfl (zX_gr (p := 28) (b := (t + 36)) d_27_25 ow_27 gf_1_53 ht (zr_1_6 hL ht) rfl (zX_iln3 (p := 29) d_27_28 rfl (zX_iag (p := 30) d_27_29 (zsa_1_6 ht) rfl (zX_itc (p := 31) d_27_30 (zsa_1_10 ht) rfl zin_2_9 zi_2 (fun M3 => ?_))))))))
  refine zX_aln0 (p := 32) d_27_31 rfl (zX_gr (p := 35) (b := (t + 40)) d_27_32 ow_27 gf_1_66 ht (zr_1_10 hL ht) rfl (zX_ic (p := 36) d_27_35 ci_3 rfl (zX_aln1 (p := 37) d_27_36 rfl (zX_gr (p := 40) (b := (a1 + 2)) d_27_37 ow_27 gf_1_113 ha1 (zr_2_1 hL ha1) rfl (zX_iln3 (p := 41) d_27_40 rfl (zX_iag (p := 42) d_27_41 (zsa_2_1 ha1) rfl (zX_itc (p := 43) d_27_42 (zsa_1_10 ht) rfl zin_3_9 zi_3 (fun M4 => ?_))))))))
  refine zX_aln0 (p := 44) d_27_43 rfl (zX_gr (p := 47) (b := (t + 40)) d_27_44 ow_27 gf_1_66 ht (zr_1_10 hL ht) rfl (zX_ic (p := 48) d_27_47 ci_4 rfl (zX_aln1 (p := 49) d_27_48 rfl (zX_gr (p := 52) (b := (a1 + 3)) d_27_49 ow_27 gf_1_116 ha1 (zr_2_2 hL ha1) rfl (zX_iln3 (p := 53) d_27_52 rfl (zX_iag (p := 54) d_27_53 (zsa_2_2 ha1) rfl (zX_itc (p := 55) d_27_54 (zsa_1_10 ht) rfl zin_4_9 zi_4 (fun M5 => ?_))))))))
  refine zX_aln0 (p := 56) d_27_55 rfl (zX_gr (p := 59) (b := (t + 40)) d_27_56 ow_27 gf_1_66 ht (zr_1_10 hL ht) rfl (zX_ic (p := 60) d_27_59 ci_5 rfl (zX_aln1 (p := 61) d_27_60 rfl (zX_gi (p := 64) d_27_61 ow_27 gf_1_122 ha1 rfl (zX_itc (p := 65) d_27_64 (zsa_1_10 ht) rfl zin_5_9 zi_5 (fun M6 => ?_))))))
  refine zX_aln0 (p := 66) d_27_65 rfl (zX_gr (p := 69) (b := (t + 40)) d_27_66 ow_27 gf_1_66 ht (zr_1_10 hL ht) rfl (zX_bi (p := 71) d_27_69 cb_6 rfl (zX_aln1 (p := 72) d_27_71 rfl (zX_gi (p := 75) d_27_72 ow_27 gf_1_125 ha1 rfl (zX_itc (p := 76) d_27_75 (zsa_1_10 ht) rfl zin_6_9 zi_6 (fun M7 => ?_))))))
  refine zX_aln0 (p := 77) d_27_76 rfl (zX_gr (p := 80) (b := (t + 40)) d_27_77 ow_27 gf_1_66 ht (zr_1_10 hL ht) rfl (zX_bi (p := 82) d_27_80 cb_7 rfl (zX_aln1 (p := 83) d_27_82 rfl (zX_gr (p := 86) (b := (a1 + 4)) d_27_83 ow_27 gf_1_119 ha1 (zr_2_3 hL ha1) rfl (zX_iln3 (p := 87) d_27_86 rfl (zX_iag (p := 88) d_27_87 (zsa_2_3 ha1) rfl (zX_cS1i (p := 91) d_27_88 ow_27 rs_1_128 kk_28 rfl (s28 hL) rfl rfl rfl rfl (fun v8 => ?_))))))))
  refine zX_itc (p := 92) d_27_91 (zsa_1_10 ht) rfl zin_7_9 zi_7 (fun M9 => ?_)
  refine zX_aln0 (p := 93) d_27_92 rfl (zX_gr (p := 96) (b := (t + 40)) d_27_93 ow_27 gf_1_66 ht (zr_1_10 hL ht) rfl (zX_bi (p := 98) d_27_96 cb_8 rfl (zX_il4 (p := 100) d_27_98 rfl (zX_itc (p := 101) d_27_100 (zsa_1_10 ht) rfl zin_8_9 zi_8 (fun M10 => ?_)))))
  refine zX_aln0 (p := 102) d_27_101 rfl (zX_gr (p := 105) (b := (t + 11)) d_27_102 ow_27 gf_1_28 ht (zr_1_2 hL ht) rfl (zX_iln2 (p := 106) d_27_105 rfl (zX_aln0 (p := 107) d_27_106 rfl (zX_gr (p := 110) (b := (t + 40)) d_27_107 ow_27 gf_1_66 ht (zr_1_10 hL ht) rfl (zX_cV2m (p := 113) ⟨ow_29, by decide, zdr_29⟩ (zso_1_2 ht) d_27_110 ow_27 rs_1_134 kk_29 rfl (s29 hL (zso_1_2 ht) (zAr_al (zsa_1_10 ht)).1) rfl rfl rfl rfl (fun v11 M12 => ?_))))))
  try dsimp only
  refine zX_ic (p := 114) d_27_113 ci_0 rfl (zX_iln2 (p := 115) d_27_114 rfl (zX_si (p := 118) d_27_115 cs_258 rfl ?_))
  refine zX_bind (σ := Unit) (β := Int32) (pj := 129) (lj := fun (b : Int32) (s : Unit) => [.val (.ref t), .val (.ref a1), .val (.int a2), .val (.int a3), .val (.int a4)]) (sj := fun b => [.int b, .int (0 : Int32), .int v11]) (mj := fun b => M12) ?_ ?_
  · refine zX_cne (p1 := 127) (p2 := 121) d_27_118 (by decide) rfl ?_ ?_
    · refine zX_bi (p := 129) d_27_127 cb_24 rfl ?_
      exact zX_leaf (fun _ _ h => h ())
    · refine zX_si (p := 124) d_27_121 cs_1000 rfl (zX_goto (p := 129) d_27_124 (by decide) ?_)
      exact zX_leaf (fun _ _ h => h ())
  · rintro v13 _
    try dsimp only
    refine zX_cS3i (p := 132) d_27_129 ow_27 rs_1_138 kk_35 rfl (s35 hL) rfl rfl rfl rfl (fun v14 => ?_)
    exact zX_retm d_27_132 rt_27

theorem s26_l2 {q : ZQ} {d : Nat} (hL : zLay q) {t : Nat} {a1 : Nat} (ht : zOb 1 t) (ha1 : zOb 2 a1) : ∀ (n : Nat) (x1 : Int32) (M2 : ZI), zX q (d + 5) 26 2 [.val (.ref t), .val (.ref a1), .val (.int x1)] [] M2 (f26_l2 t a1 n x1 M2) (zEj q (d + 5) 26 32 (fun (b : ZI) (s : Slot) => [.val (.ref t), .val (.ref a1), s]) (fun b => []) (fun b => b)) := by
  intro n
  induction n with
  | zero => intros; exact zX_none
  | succ n ih =>
    intro x1 M2
    rw [f26_l2]
    refine zX_iln2 (p := 3) d_26_2 rfl (zX_aln0 (p := 4) d_26_3 rfl (zX_gi (p := 7) d_26_4 ow_26 gf_1_101 ht rfl ?_))
    refine zX_cge (p1 := 32) (p2 := 10) d_26_7 (by decide) rfl ?_ ?_
    · exact zX_leaf (fun _ _ h => h (.val (.int x1)))
    · refine zX_aln0 (p := 11) d_26_10 rfl (zX_gr (p := 14) (b := (t + 39)) d_26_11 ow_26 gf_1_63 ht (zr_1_9 hL ht) rfl (zX_iln2 (p := 15) d_26_14 rfl (zX_aln0 (p := 16) d_26_15 rfl (zX_aln1 (p := 17) d_26_16 rfl (zX_si (p := 20) d_26_17 cs_256 rfl (zX_iln2 (p := 21) d_26_20 rfl (zX_ic (p := 22) d_26_21 ci_0 rfl ?_)))))))
      refine zX_cV4m (p := 25) ⟨ow_27, by decide, zdr_27⟩ ht d_26_22 ow_26 rs_1_142 kk_27 rfl (s27 hL ht ha1) rfl rfl rfl rfl (fun v3 M4 => ?_)
      try dsimp only
      refine zX_itg (p := 26) d_26_25 (zsa_1_9 ht) rfl (fun M5 => ?_)
      refine zX_ii2 (p := 29) d_26_26 ci_1 rfl (zX_goto (p := 2) d_26_29 (by decide) ?_)
      exact ih (x1 + (1 : Int32)) M5

theorem s26 {q : ZQ} {d : Nat} (hL : zLay q) {t : Nat} {a1 : Nat} {M : ZI} (ht : zOb 1 t) (ha1 : zOb 2 a1) : zX q (d + 5) 26 0 [.val (.ref t), .val (.ref a1), .unset] [] M (f26_weigh t a1 M) zEv := by
  unfold f26_weigh
  refine zX_ic (p := 1) d_26_0 ci_0 rfl (zX_isn2 (p := 2) d_26_1 rfl ?_)
  refine zX_bind (s26_l2 hL ht ha1 zfu (0 : Int32) M) ?_
  rintro M6 s7
  try dsimp only
  exact zX_retv d_26_32 rt_26

theorem s37 {q : ZQ} {d : Nat} (hL : zLay q) {t : Nat} {a1 : Int32} {M : ZI} (ht : zOb 7 t) : zX q (d + 3) 37 0 [.val (.ref t), .val (.int a1)] [] M (f37_isMetBy t a1 M) zEm := by
  unfold f37_isMetBy
  refine zX_aln0 (p := 1) d_37_0 rfl (zX_gi (p := 4) d_37_1 ow_37 gf_7_20 ht rfl ?_)
  refine zX_zeq (p1 := 27) (p2 := 7) d_37_4 (by decide) rfl ?_ ?_
  · refine zX_ic (p := 28) d_37_27 ci_1 rfl (zX_goto (p := 32) d_37_28 (by decide) ?_)
    exact zX_retmb d_37_32 rt_37 (Or.inr rfl)
  · refine zX_aln0 (p := 8) d_37_7 rfl (zX_gr (p := 11) (b := (t + 1)) d_37_8 ow_37 gf_7_10 ht (zr_7_0 hL ht) rfl (zX_ic (p := 12) d_37_11 ci_0 rfl (zX_aln0 (p := 13) d_37_12 rfl (zX_gr (p := 16) (b := (t + 1)) d_37_13 ow_37 gf_7_10 ht (zr_7_0 hL ht) rfl (zX_gi (p := 19) d_37_16 ow_37 gf_7_24 (zso_7_0 ht) rfl (zX_null (p := 20) d_37_19 rfl (zX_iln1 (p := 21) d_37_20 rfl ?_)))))))
    refine zX_cV4m (p := 24) ⟨ow_30, by decide, zdr_30⟩ (zso_7_0 ht) d_37_21 ow_37 rs_7_27 kk_30 rfl (s30n hL (zso_7_0 ht)) rfl rfl rfl rfl (fun v1 M2 => ?_)
    try dsimp only
    refine zX_zeq (p1 := 31) (p2 := 27) d_37_24 (by decide) rfl ?_ ?_
    · refine zX_ic (p := 32) d_37_31 ci_0 rfl ?_
      exact zX_retmb d_37_32 rt_37 (Or.inl rfl)
    · refine zX_ic (p := 28) d_37_27 ci_1 rfl (zX_goto (p := 32) d_37_28 (by decide) ?_)
      exact zX_retmb d_37_32 rt_37 (Or.inr rfl)

theorem s36_l26 {q : ZQ} {d : Nat} (hL : zLay q) {t : Nat} {a1 : Int32} {a2 : Int32} {x1 : Int32} {x2 : Int32} {x3 : Int32} {M7 : ZI} (ht : zOb 1 t) : ∀ (n : Nat) (x8 : Int32) (x9 : Int32) (x10 : Int32), zX q (d + 4) 36 26 [.val (.ref t), .val (.int a1), .val (.int a2), .val (.int x1), .val (.int x2), .val (.int x3), .val (.int x8), .val (.int x9), .val (.int x10)] [] M7 (f36_l26 t a1 a2 x3 M7 n x8 x9 x10) (zEj q (d + 4) 36 84 (fun (b : Int32 × Int32) (s : Slot) => [.val (.ref t), .val (.int a1), .val (.int a2), .val (.int x1), .val (.int x2), .val (.int x3), .val (.int b.1), .val (.int b.2), s]) (fun b => []) (fun b => M7)) := by
  intro n
  induction n with
  | zero => intros; exact zX_none
  | succ n ih =>
    intro x8 x9 x10
    rw [f36_l26]
    refine zX_il8 (p := 28) d_36_26 rfl (zX_aln0 (p := 29) d_36_28 rfl (zX_gi (p := 32) d_36_29 ow_36 gf_1_101 ht rfl ?_))
    refine zX_cge (p1 := 84) (p2 := 35) d_36_32 (by decide) rfl ?_ ?_
    · exact zX_leaf (fun _ _ h => h (.val (.int x10)))
    · refine zX_il8 (p := 37) d_36_35 rfl (zX_iln1 (p := 38) d_36_37 rfl ?_)
      refine zX_bind (σ := Unit) (β := Int32) (pj := 52) (lj := fun (b : Int32) (s : Unit) => [.val (.ref t), .val (.int a1), .val (.int a2), .val (.int x1), .val (.int x2), .val (.int x3), .val (.int x8), .val (.int x9), .val (.int x10)]) (sj := fun b => [.int b]) (mj := fun b => M7) ?_ ?_
      · refine zX_cne (p1 := 45) (p2 := 41) d_36_38 (by decide) rfl ?_ ?_
        · refine zX_aln0 (p := 46) d_36_45 rfl (zX_gr (p := 49) (b := (t + 38)) d_36_46 ow_36 gf_1_60 ht (zr_1_8 hL ht) rfl (zX_il8 (p := 51) d_36_49 rfl (zX_iag (p := 52) d_36_51 (zsa_1_8 ht) rfl ?_)))
          exact zX_leaf (fun _ _ h => h ())
        · refine zX_iln2 (p := 42) d_36_41 rfl (zX_goto (p := 52) d_36_42 (by decide) ?_)
          exact zX_leaf (fun _ _ h => h ())
      · rintro v11 _
        try dsimp only
        refine zX_il5 (p := 54) d_36_52 rfl ?_
        refine zX_cne (p1 := 78) (p2 := 57) d_36_54 (by decide) rfl ?_ ?_
        · refine zX_ii8 (p := 81) d_36_78 ci_1 rfl (zX_goto (p := 26) d_36_81 (by decide) ?_)
          exact ih x8 x9 (x10 + (1 : Int32))
        · refine zX_il6 (p := 59) d_36_57 rfl (zX_aln0 (p := 60) d_36_59 rfl (zX_gr (p := 63) (b := (t + 39)) d_36_60 ow_36 gf_1_63 ht (zr_1_9 hL ht) rfl (zX_il8 (p := 65) d_36_63 rfl (zX_iag (p := 66) d_36_65 (zsa_1_9 ht) rfl (zX_add (p := 67) d_36_66 rfl (zX_js6 (p := 69) d_36_67 rfl (fun x12 => ?_)))))))
          refine zX_il7 (p := 71) d_36_69 rfl (zX_ic (p := 72) d_36_71 ci_1 rfl (zX_il8 (p := 74) d_36_72 rfl (zX_shl (p := 75) d_36_74 rfl (zX_or (p := 76) d_36_75 rfl (zX_js7 (p := 78) d_36_76 rfl (fun x13 => ?_))))))
          refine zX_ii8 (p := 81) d_36_78 ci_1 rfl (zX_goto (p := 26) d_36_81 (by decide) ?_)
          exact ih x12 x13 (x10 + (1 : Int32))

theorem s36_l8 {q : ZQ} {d : Nat} (hL : zLay q) {t : Nat} {a1 : Int32} {a2 : Int32} (ht : zOb 1 t) : ∀ (n : Nat) (x1 : Int32) (x2 : Int32) (x3 : Int32) (M7 : ZI) (s4 : Slot) (s5 : Slot) (s6 : Slot), zX q (d + 4) 36 8 [.val (.ref t), .val (.int a1), .val (.int a2), .val (.int x1), .val (.int x2), .val (.int x3), s4, s5, s6] [] M7 (f36_l8 t a1 a2 n x1 x2 x3 M7) (zEj q (d + 4) 36 156 (fun (b : Int32 × ZI) (s : Slot × Slot × Slot × Slot × Slot) => [.val (.ref t), .val (.int a1), .val (.int a2), .val (.int b.1), s.1, s.2.1, s.2.2.1, s.2.2.2.1, s.2.2.2.2]) (fun b => []) (fun b => b.2)) := by
  intro n
  induction n with
  | zero => intros; exact zX_none
  | succ n ih =>
    intro x1 x2 x3 M7 s4 s5 s6
    rw [f36_l8]
    refine zX_il5 (p := 10) d_36_8 rfl (zX_aln0 (p := 11) d_36_10 rfl (zX_gi (p := 14) d_36_11 ow_36 gf_1_101 ht rfl ?_))
    refine zX_cge (p1 := 156) (p2 := 17) d_36_14 (by decide) rfl ?_ ?_
    · exact zX_leaf (fun _ _ h => h (.val (.int x2), .val (.int x3), s4, s5, s6))
    · refine zX_ic (p := 18) d_36_17 ci_0 rfl (zX_is6 (p := 20) d_36_18 rfl (zX_ic (p := 21) d_36_20 ci_0 rfl (zX_is7 (p := 23) d_36_21 rfl (zX_ic (p := 24) d_36_23 ci_0 rfl (zX_is8 (p := 26) d_36_24 rfl ?_)))))
      refine zX_bind (s36_l26 hL ht zfu (0 : Int32) (0 : Int32) (0 : Int32)) ?_
      rintro ⟨x14, x15⟩ s16
      try dsimp only
      refine zX_il6 (p := 86) d_36_84 rfl (zX_il4 (p := 88) d_36_86 rfl ?_)
      refine zX_bind (σ := Unit) (β := Int32) (pj := 124) (lj := fun (b : Int32) (s : Unit) => [.val (.ref t), .val (.int a1), .val (.int a2), .val (.int x1), .val (.int x2), .val (.int x3), .val (.int x14), .val (.int x15), s16]) (sj := fun b => [.int b]) (mj := fun b => M7) ?_ ?_
      · refine zX_cgt (p1 := 119) (p2 := 91) d_36_88 (by decide) rfl ?_ ?_
        · refine zX_ic (p := 120) d_36_119 ci_1 rfl (zX_goto (p := 124) d_36_120 (by decide) ?_)
          exact zX_leaf (fun _ _ h => h ())
        · refine zX_iln3 (p := 92) d_36_91 rfl (zX_ic (p := 93) d_36_92 ci_m1 rfl ?_)
          refine zX_ceq (p1 := 123) (p2 := 96) d_36_93 (by decide) rfl ?_ ?_
          · refine zX_ic (p := 124) d_36_123 ci_0 rfl ?_
            exact zX_leaf (fun _ _ h => h ())
          · refine zX_il6 (p := 98) d_36_96 rfl (zX_il4 (p := 100) d_36_98 rfl ?_)
            refine zX_cne (p1 := 123) (p2 := 103) d_36_100 (by decide) rfl ?_ ?_
            · refine zX_ic (p := 124) d_36_123 ci_0 rfl ?_
              exact zX_leaf (fun _ _ h => h ())
            · refine zX_aln0 (p := 104) d_36_103 rfl (zX_gr (p := 107) (b := (t + 36)) d_36_104 ow_36 gf_1_53 ht (zr_1_6 hL ht) rfl (zX_il5 (p := 109) d_36_107 rfl (zX_iag (p := 110) d_36_109 (zsa_1_6 ht) rfl (zX_aln0 (p := 111) d_36_110 rfl (zX_gr (p := 114) (b := (t + 36)) d_36_111 ow_36 gf_1_53 ht (zr_1_6 hL ht) rfl (zX_iln3 (p := 115) d_36_114 rfl (zX_iag (p := 116) d_36_115 (zsa_1_6 ht) rfl ?_)))))))
              refine zX_cle (p1 := 123) (p2 := 119) d_36_116 (by decide) rfl ?_ ?_
              · refine zX_ic (p := 124) d_36_123 ci_0 rfl ?_
                exact zX_leaf (fun _ _ h => h ())
              · refine zX_ic (p := 120) d_36_119 ci_1 rfl (zX_goto (p := 124) d_36_120 (by decide) ?_)
                exact zX_leaf (fun _ _ h => h ())
      · rintro v17 _
        try dsimp only
        refine zX_is8 (p := 126) d_36_124 rfl (zX_il8 (p := 128) d_36_126 rfl ?_)
        refine zX_zeq (p1 := 150) (p2 := 131) d_36_128 (by decide) rfl ?_ ?_
        · refine zX_ii5 (p := 153) d_36_150 ci_1 rfl (zX_goto (p := 8) d_36_153 (by decide) ?_)
          exact ih x1 x2 (x3 + (1 : Int32)) M7 (.val (.int x14)) (.val (.int x15)) (.val (.int v17))
        · refine zX_aln0 (p := 132) d_36_131 rfl (zX_gr (p := 135) (b := (t + 28)) d_36_132 ow_36 gf_1_42 ht (zr_1_4 hL ht) rfl (zX_il7 (p := 137) d_36_135 rfl (zX_cV1m (p := 140) ⟨ow_37, by decide, zdr_37⟩ (zso_1_4 ht) d_36_137 ow_36 rs_1_146 kk_37 rfl (s37 hL (zso_1_4 ht)) rfl rfl rfl rfl (fun v18 M19 => ?_))))
          try dsimp only
          refine zX_zeq (p1 := 150) (p2 := 143) d_36_140 (by decide) rfl ?_ ?_
          · refine zX_ii5 (p := 153) d_36_150 ci_1 rfl (zX_goto (p := 8) d_36_153 (by decide) ?_)
            exact ih x1 x2 (x3 + (1 : Int32)) M19 (.val (.int x14)) (.val (.int x15)) (.val (.int v17))
          · refine zX_il5 (p := 145) d_36_143 rfl (zX_isn3 (p := 146) d_36_145 rfl (zX_il6 (p := 148) d_36_146 rfl (zX_is4 (p := 150) d_36_148 rfl (zX_ii5 (p := 153) d_36_150 ci_1 rfl (zX_goto (p := 8) d_36_153 (by decide) ?_)))))
            exact ih x3 x14 (x3 + (1 : Int32)) M19 (.val (.int x14)) (.val (.int x15)) (.val (.int v17))

theorem s36 {q : ZQ} {d : Nat} (hL : zLay q) {t : Nat} {a1 : Int32} {a2 : Int32} {M : ZI} (ht : zOb 1 t) : zX q (d + 4) 36 0 [.val (.ref t), .val (.int a1), .val (.int a2), .unset, .unset, .unset, .unset, .unset, .unset] [] M (f36_elect t a1 a2 M) zEm := by
  unfold f36_elect
  refine zX_ic (p := 1) d_36_0 ci_m1 rfl (zX_isn3 (p := 2) d_36_1 rfl (zX_ic (p := 3) d_36_2 ci_0 rfl (zX_is4 (p := 5) d_36_3 rfl (zX_ic (p := 6) d_36_5 ci_0 rfl (zX_is5 (p := 8) d_36_6 rfl ?_)))))
  refine zX_bind (s36_l8 hL ht zfu (-1 : Int32) (0 : Int32) (0 : Int32) M (.unset) (.unset) (.unset)) ?_
  rintro ⟨x20, M21⟩ ⟨s22, s23, s24, s25, s26⟩
  try dsimp only
  refine zX_iln3 (p := 157) d_36_156 rfl ?_
  exact zX_retm d_36_157 rt_36

theorem s39 {q : ZQ} {d : Nat} (hL : zLay q) {t : Nat} {M : ZI} (ht : zOb 2 t) : zX q d 39 0 [.val (.ref t)] [] M (f39_hoursLeft t M) (zEi M) := by
  unfold f39_hoursLeft
  refine zX_bi (p := 2) d_39_0 cb_24 rfl (zX_aln0 (p := 3) d_39_2 rfl (zX_gi (p := 6) d_39_3 ow_39 gf_2_30 ht rfl (zX_sub (p := 7) d_39_6 rfl ?_)))
  exact zX_reti d_39_7 rt_39

theorem s41_l5 {q : ZQ} {d : Nat} (hL : zLay q) {t : Nat} {a1 : Int32} {a2 : Int32} {M : ZI} (ht : zOb 6 t) : ∀ (n : Nat) (x1 : Int32) (x2 : Int32), zX q d 41 5 [.val (.ref t), .val (.int a1), .val (.int a2), .val (.int x1), .val (.int x2)] [] M (f41_l5 t a1 a2 M n x1 x2) (zEj q d 41 49 (fun (b : Int32) (s : Slot) => [.val (.ref t), .val (.int a1), .val (.int a2), .val (.int b), s]) (fun b => []) (fun b => M)) := by
  intro n
  induction n with
  | zero => intros; exact zX_none
  | succ n ih =>
    intro x1 x2
    rw [f41_l5]
    refine zX_il4 (p := 7) d_41_5 rfl (zX_aln0 (p := 8) d_41_7 rfl (zX_gi (p := 11) d_41_8 ow_41 gf_6_39 ht rfl ?_))
    refine zX_cge (p1 := 49) (p2 := 14) d_41_11 (by decide) rfl ?_ ?_
    · exact zX_leaf (fun _ _ h => h (.val (.int x2)))
    · refine zX_aln0 (p := 15) d_41_14 rfl (zX_gr (p := 18) (b := (t + 1)) d_41_15 ow_41 gf_6_9 ht (zr_6_0 hL ht) rfl (zX_il4 (p := 20) d_41_18 rfl (zX_iag (p := 21) d_41_20 (zsa_6_0 ht) rfl (zX_iln1 (p := 22) d_41_21 rfl ?_))))
      refine zX_cne (p1 := 43) (p2 := 25) d_41_22 (by decide) rfl ?_ ?_
      · refine zX_ii4 (p := 46) d_41_43 ci_1 rfl (zX_goto (p := 5) d_41_46 (by decide) ?_)
        exact ih x1 (x2 + (1 : Int32))
      · refine zX_aln0 (p := 26) d_41_25 rfl (zX_gr (p := 29) (b := (t + 2)) d_41_26 ow_41 gf_6_15 ht (zr_6_1 hL ht) rfl (zX_il4 (p := 31) d_41_29 rfl (zX_iag (p := 32) d_41_31 (zsa_6_1 ht) rfl (zX_iln2 (p := 33) d_41_32 rfl ?_))))
        refine zX_cgt (p1 := 43) (p2 := 36) d_41_33 (by decide) rfl ?_ ?_
        · refine zX_ii4 (p := 46) d_41_43 ci_1 rfl (zX_goto (p := 5) d_41_46 (by decide) ?_)
          exact ih x1 (x2 + (1 : Int32))
        · refine zX_iln3 (p := 37) d_41_36 rfl (zX_ic (p := 38) d_41_37 ci_1 rfl (zX_il4 (p := 40) d_41_38 rfl (zX_shl (p := 41) d_41_40 rfl (zX_or (p := 42) d_41_41 rfl (zX_jsn3 (p := 43) d_41_42 rfl (fun x3 => ?_))))))
          refine zX_ii4 (p := 46) d_41_43 ci_1 rfl (zX_goto (p := 5) d_41_46 (by decide) ?_)
          exact ih x3 (x2 + (1 : Int32))

theorem s41 {q : ZQ} {d : Nat} (hL : zLay q) {t : Nat} {a1 : Int32} {a2 : Int32} {M : ZI} (ht : zOb 6 t) : zX q d 41 0 [.val (.ref t), .val (.int a1), .val (.int a2), .unset, .unset] [] M (f41_ownedBy t a1 a2 M) (zEi M) := by
  unfold f41_ownedBy
  refine zX_ic (p := 1) d_41_0 ci_0 rfl (zX_isn3 (p := 2) d_41_1 rfl (zX_ic (p := 3) d_41_2 ci_0 rfl (zX_is4 (p := 5) d_41_3 rfl ?_)))
  refine zX_bind (s41_l5 hL ht zfu (0 : Int32) (0 : Int32)) ?_
  rintro x4 s5
  try dsimp only
  refine zX_iln3 (p := 50) d_41_49 rfl ?_
  exact zX_reti d_41_50 rt_41

theorem s42_l5 {q : ZQ} {d : Nat} (hL : zLay q) {t : Nat} {a1 : Int32} {a2 : Nat} {M : ZI} (ht : zOb 6 t) (ha2 : zAr a2 (zal a2)) : ∀ (n : Nat) (x1 : Int32) (x2 : Int32), zX q (d + 1) 42 5 [.val (.ref t), .val (.int a1), .val (.ref a2), .val (.int x1), .val (.int x2)] [] M (f42_l5 t a1 a2 M n x1 x2) (zEj q (d + 1) 42 43 (fun (b : Int32) (s : Slot) => [.val (.ref t), .val (.int a1), .val (.ref a2), .val (.int b), s]) (fun b => []) (fun b => M)) := by
  intro n
  induction n with
  | zero => intros; exact zX_none
  | succ n ih =>
    intro x1 x2
    rw [f42_l5]
    refine zX_il4 (p := 7) d_42_5 rfl (zX_aln0 (p := 8) d_42_7 rfl (zX_gi (p := 11) d_42_8 ow_42 gf_6_39 ht rfl ?_))
    refine zX_cge (p1 := 43) (p2 := 14) d_42_11 (by decide) rfl ?_ ?_
    · exact zX_leaf (fun _ _ h => h (.val (.int x2)))
    · refine zX_il4 (p := 16) d_42_14 rfl (zX_aln2 (p := 17) d_42_16 rfl (zX_len (p := 18) d_42_17 ha2 rfl ?_))
      refine zX_cge (p1 := 43) (p2 := 21) d_42_18 (by decide) rfl ?_ ?_
      · exact zX_leaf (fun _ _ h => h (.val (.int x2)))
      · refine zX_iln1 (p := 22) d_42_21 rfl (zX_il4 (p := 24) d_42_22 rfl (zX_cS2i (p := 27) d_42_24 ow_42 rs_6_43 kk_19 rfl (s19 hL) rfl rfl rfl rfl (fun v3 => ?_)))
        refine zX_zeq (p1 := 37) (p2 := 30) d_42_27 (by decide) rfl ?_ ?_
        · refine zX_ii4 (p := 40) d_42_37 ci_1 rfl (zX_goto (p := 5) d_42_40 (by decide) ?_)
          exact ih x1 (x2 + (1 : Int32))
        · refine zX_iln3 (p := 31) d_42_30 rfl (zX_aln2 (p := 32) d_42_31 rfl (zX_il4 (p := 34) d_42_32 rfl (zX_iag (p := 35) d_42_34 ha2 rfl (zX_add (p := 36) d_42_35 rfl (zX_jsn3 (p := 37) d_42_36 rfl (fun x4 => ?_))))))
          refine zX_ii4 (p := 40) d_42_37 ci_1 rfl (zX_goto (p := 5) d_42_40 (by decide) ?_)
          exact ih x4 (x2 + (1 : Int32))

theorem s42 {q : ZQ} {d : Nat} (hL : zLay q) {t : Nat} {a1 : Int32} {a2 : Nat} {M : ZI} (ht : zOb 6 t) (ha2 : zAr a2 (zal a2)) : zX q (d + 1) 42 0 [.val (.ref t), .val (.int a1), .val (.ref a2), .unset, .unset] [] M (f42_sum t a1 a2 M) (zEi M) := by
  unfold f42_sum
  refine zX_ic (p := 1) d_42_0 ci_0 rfl (zX_isn3 (p := 2) d_42_1 rfl (zX_ic (p := 3) d_42_2 ci_0 rfl (zX_is4 (p := 5) d_42_3 rfl ?_)))
  refine zX_bind (s42_l5 hL ht ha2 zfu (0 : Int32) (0 : Int32)) ?_
  rintro x5 s6
  try dsimp only
  refine zX_iln3 (p := 44) d_42_43 rfl ?_
  exact zX_reti d_42_44 rt_42

theorem s43_l2 {q : ZQ} {d : Nat} (hL : zLay q) {t : Nat} {a1 : Int32} {a2 : Int32} {M : ZI} (ht : zOb 6 t) : ∀ (n : Nat) (x1 : Int32), zX q (d + 1) 43 2 [.val (.ref t), .val (.int a1), .val (.int a2), .val (.int x1)] [] M (f43_l2 t a1 a2 M n x1) (zEi M) := by
  intro n
  induction n with
  | zero => intros; exact zX_none
  | succ n ih =>
    intro x1
    rw [f43_l2]
    refine zX_iln3 (p := 3) d_43_2 rfl (zX_aln0 (p := 4) d_43_3 rfl (zX_gi (p := 7) d_43_4 ow_43 gf_6_39 ht rfl ?_))
    refine zX_cge (p1 := 51) (p2 := 10) d_43_7 (by decide) rfl ?_ ?_
    · refine zX_ic (p := 52) d_43_51 ci_1 rfl ?_
      exact zX_retib d_43_52 rt_43 (Or.inr rfl)
    · refine zX_iln1 (p := 11) d_43_10 rfl (zX_iln3 (p := 12) d_43_11 rfl (zX_cS2i (p := 15) d_43_12 ow_43 rs_6_43 kk_19 rfl (s19 hL) rfl rfl rfl rfl (fun v2 => ?_)))
      refine zX_zeq (p1 := 45) (p2 := 18) d_43_15 (by decide) rfl ?_ ?_
      · refine zX_ii3 (p := 48) d_43_45 ci_1 rfl (zX_goto (p := 2) d_43_48 (by decide) ?_)
        exact ih (x1 + (1 : Int32))
      · refine zX_aln0 (p := 19) d_43_18 rfl (zX_gr (p := 22) (b := (t + 6)) d_43_19 ow_43 gf_6_27 ht (zr_6_5 hL ht) rfl (zX_iln3 (p := 23) d_43_22 rfl (zX_iag (p := 24) d_43_23 (zsa_6_5 ht) rfl (zX_ic (p := 25) d_43_24 ci_m1 rfl ?_))))
        refine zX_ceq (p1 := 45) (p2 := 28) d_43_25 (by decide) rfl ?_ ?_
        · refine zX_ii3 (p := 48) d_43_45 ci_1 rfl (zX_goto (p := 2) d_43_48 (by decide) ?_)
          exact ih (x1 + (1 : Int32))
        · refine zX_iln1 (p := 29) d_43_28 rfl (zX_iln2 (p := 30) d_43_29 rfl (zX_or (p := 31) d_43_30 rfl (zX_aln0 (p := 32) d_43_31 rfl (zX_gr (p := 35) (b := (t + 6)) d_43_32 ow_43 gf_6_27 ht (zr_6_5 hL ht) rfl (zX_iln3 (p := 36) d_43_35 rfl (zX_iag (p := 37) d_43_36 (zsa_6_5 ht) rfl (zX_cS2i (p := 40) d_43_37 ow_43 rs_6_43 kk_19 rfl (s19 hL) rfl rfl rfl rfl (fun v3 => ?_))))))))
          refine zX_zne (p1 := 45) (p2 := 43) d_43_40 (by decide) rfl ?_ ?_
          · refine zX_ii3 (p := 48) d_43_45 ci_1 rfl (zX_goto (p := 2) d_43_48 (by decide) ?_)
            exact ih (x1 + (1 : Int32))
          · refine zX_ic (p := 44) d_43_43 ci_0 rfl ?_
            exact zX_retib d_43_44 rt_43 (Or.inl rfl)

theorem s43 {q : ZQ} {d : Nat} (hL : zLay q) {t : Nat} {a1 : Int32} {a2 : Int32} {M : ZI} (ht : zOb 6 t) : zX q (d + 1) 43 0 [.val (.ref t), .val (.int a1), .val (.int a2), .unset] [] M (f43_isWhole t a1 a2 M) (zEi M) := by
  unfold f43_isWhole
  refine zX_ic (p := 1) d_43_0 ci_0 rfl (zX_isn3 (p := 2) d_43_1 rfl ?_)
  exact s43_l2 hL ht zfu (0 : Int32)

theorem s40_l27 {q : ZQ} {d : Nat} (hL : zLay q) {t : Nat} {a1 : Int32} {a2 : Int32} {a3 : Int32} {M : ZI} {x2 : Int32} (ht : zOb 6 t) : ∀ (n : Nat) (x3 : Int32) (x4 : Int32) (x5 : Int32) (x6 : Int32) (x7 : Int32) (s8 : Slot) (s9 : Slot), zX q (d + 2) 40 27 [.val (.ref t), .val (.int a1), .val (.int a2), .val (.int a3), .val (.int x2), .val (.int x3), .val (.int x4), .val (.int x5), .val (.int x6), .val (.int x7), s8, s9] [] M (f40_l27 t a2 a3 M x2 n x3 x4 x5 x6 x7) (zEj q (d + 2) 40 136 (fun (b : Int32) (s : Slot × Slot × Slot × Slot × Slot × Slot) => [.val (.ref t), .val (.int a1), .val (.int a2), .val (.int a3), .val (.int x2), .val (.int b), s.1, s.2.1, s.2.2.1, s.2.2.2.1, s.2.2.2.2.1, s.2.2.2.2.2]) (fun b => []) (fun b => M)) := by
  intro n
  induction n with
  | zero => intros; exact zX_none
  | succ n ih =>
    intro x3 x4 x5 x6 x7 s8 s9
    rw [f40_l27]
    refine zX_il9 (p := 29) d_40_27 rfl (zX_si (p := 32) d_40_29 cs_4096 rfl ?_)
    refine zX_cge (p1 := 136) (p2 := 35) d_40_32 (by decide) rfl ?_ ?_
    · exact zX_leaf (fun _ _ h => h (.val (.int x4), .val (.int x5), .val (.int x6), .val (.int x7), s8, s9))
    · refine zX_il8 (p := 37) d_40_35 rfl (zX_il4 (p := 39) d_40_37 rfl (zX_sub (p := 40) d_40_39 rfl (zX_il4 (p := 42) d_40_40 rfl (zX_and (p := 43) d_40_42 rfl (zX_js8 (p := 45) d_40_43 rfl (fun x10 => ?_))))))
      refine zX_il8 (p := 47) d_40_45 rfl ?_
      refine zX_zne (p1 := 53) (p2 := 50) d_40_47 (by decide) rfl ?_ ?_
      · refine zX_aln0 (p := 54) d_40_53 rfl (zX_il8 (p := 56) d_40_54 rfl (zX_aln0 (p := 57) d_40_56 rfl (zX_gr (p := 60) (b := (t + 2)) d_40_57 ow_40 gf_6_15 ht (zr_6_1 hL ht) rfl (zX_cV2i (p := 63) ⟨ow_42, by decide, zdr_42⟩ ht d_40_60 ow_40 rs_6_51 kk_42 rfl (s42 hL ht (zAr_al (zsa_6_1 ht)).1) rfl rfl rfl rfl (fun v11 => ?_)))))
        refine zX_is10 (p := 65) d_40_63 rfl (zX_il10 (p := 67) d_40_65 rfl (zX_iln2 (p := 68) d_40_67 rfl ?_))
        refine zX_bind (σ := Unit) (β := Int32) (pj := 85) (lj := fun (b : Int32) (s : Unit) => [.val (.ref t), .val (.int a1), .val (.int a2), .val (.int a3), .val (.int x2), .val (.int x3), .val (.int x4), .val (.int x5), .val (.int x10), .val (.int x7), .val (.int v11), s9]) (sj := fun b => [.int b]) (mj := fun b => M) ?_ ?_
        · refine zX_cgt (p1 := 84) (p2 := 71) d_40_68 (by decide) rfl ?_ ?_
          · refine zX_ic (p := 85) d_40_84 ci_m1 rfl ?_
            exact zX_leaf (fun _ _ h => h ())
          · refine zX_aln0 (p := 72) d_40_71 rfl (zX_il8 (p := 74) d_40_72 rfl (zX_aln0 (p := 75) d_40_74 rfl (zX_gr (p := 78) (b := (t + 3)) d_40_75 ow_40 gf_6_18 ht (zr_6_2 hL ht) rfl (zX_cV2i (p := 81) ⟨ow_42, by decide, zdr_42⟩ ht d_40_78 ow_40 rs_6_51 kk_42 rfl (s42 hL ht (zAr_al (zsa_6_2 ht)).1) rfl rfl rfl rfl (fun v12 => ?_)))))
            refine zX_goto (p := 85) d_40_81 (by decide) ?_
            exact zX_leaf (fun _ _ h => h ())
        · rintro v13 _
          try dsimp only
          refine zX_is11 (p := 87) d_40_85 rfl (zX_il11 (p := 89) d_40_87 rfl (zX_il6 (p := 91) d_40_89 rfl ?_))
          refine zX_jn (P := fun g => ∀ (x14 : Int32), zX q (d + 2) 40 108 [.val (.ref t), .val (.int a1), .val (.int a2), .val (.int a3), .val (.int x2), .val (.int x3), .val (.int x4), .val (.int x5), .val (.int x10), .val (.int x14), .val (.int v11), .val (.int v13)] [] M (g x14) (zEj q (d + 2) 40 136 (fun (b : Int32) (s : Slot × Slot × Slot × Slot × Slot × Slot) => [.val (.ref t), .val (.int a1), .val (.int a2), .val (.int a3), .val (.int x2), .val (.int b), s.1, s.2.1, s.2.2.1, s.2.2.2.1, s.2.2.2.2.1, s.2.2.2.2.2]) (fun b => []) (fun b => M))) ?_ (fun j16 hj16 => ?_)
          · intro x14
            try dsimp only
            refine zX_aln0 (p := 109) d_40_108 rfl (zX_il8 (p := 111) d_40_109 rfl (zX_iln3 (p := 112) d_40_111 rfl (zX_cV2i (p := 115) ⟨ow_43, by decide, zdr_43⟩ ht d_40_112 ow_40 rs_6_55 kk_43 rfl (s43 hL ht) rfl rfl rfl rfl (fun v15 => ?_))))
            refine zX_zeq (p1 := 130) (p2 := 118) d_40_115 (by decide) rfl ?_ ?_
            · refine zX_ii9 (p := 133) d_40_130 ci_1 rfl (zX_goto (p := 27) d_40_133 (by decide) ?_)
              exact ih x3 x4 x5 x10 (x14 + (1 : Int32)) (.val (.int v11)) (.val (.int v13))
            · refine zX_il8 (p := 120) d_40_118 rfl (zX_is5 (p := 122) d_40_120 rfl (zX_il11 (p := 124) d_40_122 rfl (zX_is6 (p := 126) d_40_124 rfl (zX_il10 (p := 128) d_40_126 rfl (zX_is7 (p := 130) d_40_128 rfl (zX_ii9 (p := 133) d_40_130 ci_1 rfl (zX_goto (p := 27) d_40_133 (by decide) ?_)))))))
              exact ih x10 v13 v11 x10 (x14 + (1 : Int32)) (.val (.int v11)) (.val (.int v13))
          · refine zX_cgt (p1 := 108) (p2 := 94) d_40_91 (by decide) rfl ?_ ?_
            · exact hj16 x7
            · refine zX_il11 (p := 96) d_40_94 rfl (zX_il6 (p := 98) d_40_96 rfl ?_)
              refine zX_cne (p1 := 130) (p2 := 101) d_40_98 (by decide) rfl ?_ ?_
              · refine zX_ii9 (p := 133) d_40_130 ci_1 rfl (zX_goto (p := 27) d_40_133 (by decide) ?_)
                exact ih x3 x4 x5 x10 (x7 + (1 : Int32)) (.val (.int v11)) (.val (.int v13))
              · refine zX_il10 (p := 103) d_40_101 rfl (zX_il7 (p := 105) d_40_103 rfl ?_)
                refine zX_cge (p1 := 130) (p2 := 108) d_40_105 (by decide) rfl ?_ ?_
                · refine zX_ii9 (p := 133) d_40_130 ci_1 rfl (zX_goto (p := 27) d_40_133 (by decide) ?_)
                  exact ih x3 x4 x5 x10 (x7 + (1 : Int32)) (.val (.int v11)) (.val (.int v13))
                · exact hj16 x7
      · refine zX_goto (p := 136) d_40_50 (by decide) ?_
        exact zX_leaf (fun _ _ h => h (.val (.int x4), .val (.int x5), .val (.int x10), .val (.int x7), s8, s9))

theorem s40 {q : ZQ} {d : Nat} (hL : zLay q) {t : Nat} {a1 : Int32} {a2 : Int32} {a3 : Int32} {M : ZI} (ht : zOb 6 t) : zX q (d + 2) 40 0 [.val (.ref t), .val (.int a1), .val (.int a2), .val (.int a3), .unset, .unset, .unset, .unset, .unset, .unset, .unset, .unset] [] M (f40_bestSet t a1 a2 a3 M) (zEi M) := by
  unfold f40_bestSet
  refine zX_aln0 (p := 1) d_40_0 rfl (zX_iln1 (p := 2) d_40_1 rfl (zX_iln2 (p := 3) d_40_2 rfl (zX_cV2i (p := 6) ⟨ow_41, by decide, zdr_41⟩ ht d_40_3 ow_40 rs_6_47 kk_41 rfl (s41 hL ht) rfl rfl rfl rfl (fun v1 => ?_))))
  refine zX_iln3 (p := 7) d_40_6 rfl (zX_ic (p := 8) d_40_7 ci_m1 rfl (zX_xor (p := 9) d_40_8 rfl (zX_and (p := 10) d_40_9 rfl (zX_js4 (p := 12) d_40_10 rfl (fun x2 => ?_)))))
  refine zX_ic (p := 13) d_40_12 ci_0 rfl (zX_is5 (p := 15) d_40_13 rfl (zX_ic (p := 16) d_40_15 ci_0 rfl (zX_is6 (p := 18) d_40_16 rfl (zX_ic (p := 19) d_40_18 ci_0 rfl (zX_is7 (p := 21) d_40_19 rfl (zX_ic (p := 22) d_40_21 ci_0 rfl (zX_is8 (p := 24) d_40_22 rfl ?_)))))))
  refine zX_ic (p := 25) d_40_24 ci_1 rfl (zX_is9 (p := 27) d_40_25 rfl ?_)
  refine zX_bind (s40_l27 hL ht zfu (0 : Int32) (0 : Int32) (0 : Int32) (0 : Int32) (1 : Int32) (.unset) (.unset)) ?_
  rintro x17 ⟨s18, s19, s20, s21, s22, s23⟩
  try dsimp only
  refine zX_il5 (p := 138) d_40_136 rfl ?_
  exact zX_reti d_40_138 rt_40

theorem s44 {q : ZQ} {d : Nat} (hL : zLay q) {t : Nat} {a1 : Int32} {M : ZI} (ht : zOb 2 t) : zX q d 44 0 [.val (.ref t), .val (.int a1)] [] M (f44_draw t a1 M) zEm := by
  unfold f44_draw
  refine zX_aln0 (p := 1) d_44_0 rfl (zX_ldc (p := 3) d_44_1 ow_44 ks_2_58 kn_2_58 rfl (zX_aln0 (p := 4) d_44_3 rfl (zX_gi (p := 7) d_44_4 ow_44 gf_2_46 ht rfl (zX_mul (p := 8) d_44_7 rfl (zX_ldc (p := 10) d_44_8 ow_44 ks_2_59 kn_2_59 rfl (zX_add (p := 11) d_44_10 rfl (zX_pi (p := 14) d_44_11 ow_44 gf_2_46 ht rfl (fun M1 => ?_))))))))
  refine zX_iln1 (p := 15) d_44_14 rfl ?_
  refine zX_zle (p1 := 30) (p2 := 18) d_44_15 (by decide) rfl ?_ ?_
  · refine zX_ic (p := 31) d_44_30 ci_0 rfl ?_
    exact zX_retm d_44_31 rt_44
  · refine zX_aln0 (p := 19) d_44_18 rfl (zX_gi (p := 22) d_44_19 ow_44 gf_2_46 ht rfl (zX_bi (p := 24) d_44_22 cb_8 rfl (zX_ush (p := 25) d_44_24 rfl (zX_iln1 (p := 26) d_44_25 rfl (zX_remg (p := 27) d_44_26 rfl (zX_goto (p := 31) d_44_27 (by decide) ?_))))))
    exact zX_retm d_44_31 rt_44

theorem s46 {q : ZQ} {d : Nat} (hL : zLay q) {t : Nat} {a1 : Nat} {a2 : Int32} {a3 : Int32} {a4 : Int32} {M : ZI} (ht : zOb 3 t) (ha1 : zOb 2 a1) : zX q d 46 0 [.val (.ref t), .val (.ref a1), .val (.int a2), .val (.int a3), .val (.int a4), .unset] [] M (f46_write t a1 a2 a3 a4 M) zEv := by
  unfold f46_write
  refine zX_aln1 (p := 1) d_46_0 rfl (zX_gi (p := 4) d_46_1 ow_46 gf_3_30 ha1 rfl (zX_js5 (p := 6) d_46_4 rfl (fun x1 => ?_)))
  refine zX_il5 (p := 8) d_46_6 rfl ?_
  refine zX_zlt (p1 := 19) (p2 := 11) d_46_8 (by decide) rfl ?_ ?_
  · exact zX_retv d_46_19 rt_46
  · refine zX_il5 (p := 13) d_46_11 rfl (zX_si (p := 16) d_46_13 cs_150 rfl ?_)
    refine zX_clt (p1 := 20) (p2 := 19) d_46_16 (by decide) rfl ?_ ?_
    · refine zX_aln0 (p := 21) d_46_20 rfl (zX_gr (p := 24) (b := (t + 1)) d_46_21 ow_46 gf_3_9 ht (zr_3_0 hL ht) rfl (zX_il5 (p := 26) d_46_24 rfl (zX_aln1 (p := 27) d_46_26 rfl (zX_gi (p := 30) d_46_27 ow_46 gf_3_36 ha1 rfl (zX_itg (p := 31) d_46_30 (zsa_3_0 ht) rfl (fun M2 => ?_))))))
      refine zX_aln0 (p := 32) d_46_31 rfl (zX_gr (p := 35) (b := (t + 2)) d_46_32 ow_46 gf_3_15 ht (zr_3_1 hL ht) rfl (zX_il5 (p := 37) d_46_35 rfl (zX_iln2 (p := 38) d_46_37 rfl (zX_itg (p := 39) d_46_38 (zsa_3_1 ht) rfl (fun M3 => ?_)))))
      refine zX_aln0 (p := 40) d_46_39 rfl (zX_gr (p := 43) (b := (t + 3)) d_46_40 ow_46 gf_3_18 ht (zr_3_2 hL ht) rfl (zX_il5 (p := 45) d_46_43 rfl (zX_iln3 (p := 46) d_46_45 rfl (zX_itg (p := 47) d_46_46 (zsa_3_2 ht) rfl (fun M4 => ?_)))))
      refine zX_aln0 (p := 48) d_46_47 rfl (zX_gr (p := 51) (b := (t + 4)) d_46_48 ow_46 gf_3_21 ht (zr_3_3 hL ht) rfl (zX_il5 (p := 53) d_46_51 rfl (zX_il4 (p := 55) d_46_53 rfl (zX_itg (p := 56) d_46_55 (zsa_3_3 ht) rfl (fun M5 => ?_)))))
      refine zX_aln1 (p := 57) d_46_56 rfl (zX_dup (p := 58) d_46_57 rfl rfl (zX_gi (p := 61) d_46_58 ow_46 gf_3_30 ha1 rfl (zX_ic (p := 62) d_46_61 ci_1 rfl (zX_add (p := 63) d_46_62 rfl (zX_pi (p := 66) d_46_63 ow_46 gf_3_30 ha1 rfl (fun M6 => ?_))))))
      exact zX_retv d_46_66 rt_46
    · exact zX_retv d_46_19 rt_46

theorem s45_l28 {q : ZQ} {d : Nat} (hL : zLay q) {t : Nat} {a1 : Nat} {a2 : Int32} {a3 : Int32} {a4 : Int32} (ht : zOb 1 t) (ha1 : zOb 2 a1) : ∀ (n : Nat) (x3 : Int32) (M4 : ZI), zX q (d + 2) 45 28 [.val (.ref t), .val (.ref a1), .val (.int a2), .val (.int a3), .val (.int a4), .val (.int x3)] [] M4 (f45_l28 t a1 a3 n x3 M4) (zEj q (d + 2) 45 76 (fun (b : ZI) (s : Slot) => [.val (.ref t), .val (.ref a1), .val (.int a2), .val (.int a3), .val (.int a4), s]) (fun b => []) (fun b => b)) := by
  intro n
  induction n with
  | zero => intros; exact zX_none
  | succ n ih =>
    intro x3 M4
    rw [f45_l28]
    refine zX_il5 (p := 30) d_45_28 rfl (zX_aln0 (p := 31) d_45_30 rfl (zX_gr (p := 34) (b := (t + 20)) d_45_31 ow_45 gf_1_35 ht (zr_1_3 hL ht) rfl (zX_gi (p := 37) d_45_34 ow_45 gf_1_209 (zso_1_3 ht) rfl ?_)))
    refine zX_cge (p1 := 76) (p2 := 40) d_45_37 (by decide) rfl ?_ ?_
    · exact zX_leaf (fun _ _ h => h (.val (.int x3)))
    · refine zX_iln3 (p := 41) d_45_40 rfl (zX_il5 (p := 43) d_45_41 rfl (zX_cS2i (p := 46) d_45_43 ow_45 rs_1_212 kk_19 rfl (s19 hL) rfl rfl rfl rfl (fun v5 => ?_)))
      refine zX_zeq (p1 := 70) (p2 := 49) d_45_46 (by decide) rfl ?_ ?_
      · refine zX_ii5 (p := 73) d_45_70 ci_1 rfl (zX_goto (p := 28) d_45_73 (by decide) ?_)
        exact ih (x3 + (1 : Int32)) M4
      · refine zX_aln0 (p := 50) d_45_49 rfl (zX_gr (p := 53) (b := (t + 6)) d_45_50 ow_45 gf_1_21 ht (zr_1_1 hL ht) rfl (zX_aln1 (p := 54) d_45_53 rfl (zX_ic (p := 55) d_45_54 ci_3 rfl (zX_il5 (p := 57) d_45_55 rfl (zX_aln0 (p := 58) d_45_57 rfl (zX_gr (p := 61) (b := (t + 20)) d_45_58 ow_45 gf_1_35 ht (zr_1_3 hL ht) rfl (zX_gr (p := 64) (b := (t + 22)) d_45_61 ow_45 gf_1_184 (zso_1_3 ht) (zr_6_1 hL (zso_1_3 ht)) rfl ?_)))))))
        refine zX_il5 (p := 66) d_45_64 rfl (zX_iag (p := 67) d_45_66 (zsa_6_1 (zso_1_3 ht)) rfl (zX_cV4v (p := 70) ⟨ow_46, by decide, zdr_46⟩ (zso_1_1 ht) d_45_67 ow_45 rs_1_166 kk_46 rfl (s46 hL (zso_1_1 ht) ha1) rfl rfl rfl rfl (fun M6 => ?_)))
        refine zX_ii5 (p := 73) d_45_70 ci_1 rfl (zX_goto (p := 28) d_45_73 (by decide) ?_)
        exact ih (x3 + (1 : Int32)) M6

theorem s45 {q : ZQ} {d : Nat} (hL : zLay q) {t : Nat} {a1 : Nat} {a2 : Int32} {a3 : Int32} {a4 : Int32} {M : ZI} (ht : zOb 1 t) (ha1 : zOb 2 a1) : zX q (d + 2) 45 0 [.val (.ref t), .val (.ref a1), .val (.int a2), .val (.int a3), .val (.int a4), .unset] [] M (f45_enter t a1 a2 a3 a4 M) zEv := by
  unfold f45_enter
  refine zX_aln0 (p := 1) d_45_0 rfl (zX_gr (p := 4) (b := (t + 6)) d_45_1 ow_45 gf_1_21 ht (zr_1_1 hL ht) rfl (zX_aln1 (p := 5) d_45_4 rfl (zX_ic (p := 6) d_45_5 ci_0 rfl (zX_iln2 (p := 7) d_45_6 rfl (zX_aln0 (p := 8) d_45_7 rfl (zX_gr (p := 11) (b := (t + 20)) d_45_8 ow_45 gf_1_35 ht (zr_1_3 hL ht) rfl (zX_iln3 (p := 12) d_45_11 rfl ?_)))))))
  refine zX_aln0 (p := 13) d_45_12 rfl (zX_gr (p := 16) (b := (t + 20)) d_45_13 ow_45 gf_1_35 ht (zr_1_3 hL ht) rfl (zX_gr (p := 19) (b := (t + 22)) d_45_16 ow_45 gf_1_184 (zso_1_3 ht) (zr_6_1 hL (zso_1_3 ht)) rfl (zX_cV2i (p := 22) ⟨ow_42, by decide, zdr_42⟩ (zso_1_3 ht) d_45_19 ow_45 rs_1_187 kk_42 rfl (s42 hL (zso_1_3 ht) (zAr_al (zsa_6_1 (zso_1_3 ht))).1) rfl rfl rfl rfl (fun v1 => ?_))))
  refine zX_cV4v (p := 25) ⟨ow_46, by decide, zdr_46⟩ (zso_1_1 ht) d_45_22 ow_45 rs_1_166 kk_46 rfl (s46 hL (zso_1_1 ht) ha1) rfl rfl rfl rfl (fun M2 => ?_)
  refine zX_ic (p := 26) d_45_25 ci_0 rfl (zX_is5 (p := 28) d_45_26 rfl ?_)
  refine zX_bind (s45_l28 hL ht ha1 zfu (0 : Int32) M2) ?_
  rintro M7 s8
  try dsimp only
  refine zX_il4 (p := 78) d_45_76 rfl ?_
  refine zX_zeq (p1 := 92) (p2 := 81) d_45_78 (by decide) rfl ?_ ?_
  · exact zX_retv d_45_92 rt_45
  · refine zX_aln0 (p := 82) d_45_81 rfl (zX_gr (p := 85) (b := (t + 6)) d_45_82 ow_45 gf_1_21 ht (zr_1_1 hL ht) rfl (zX_aln1 (p := 86) d_45_85 rfl (zX_ic (p := 87) d_45_86 ci_4 rfl (zX_iln2 (p := 88) d_45_87 rfl (zX_ic (p := 89) d_45_88 ci_0 rfl (zX_cV4v (p := 92) ⟨ow_46, by decide, zdr_46⟩ (zso_1_1 ht) d_45_89 ow_45 rs_1_166 kk_46 rfl (s46 hL (zso_1_1 ht) ha1) rfl rfl rfl rfl (fun M9 => ?_)))))))
    exact zX_retv d_45_92 rt_45

theorem s38 {q : ZQ} {d : Nat} (hL : zLay q) {t : Nat} {a1 : Nat} {a2 : Int32} {a3 : Int32} {M : ZI} (ht : zOb 1 t) (ha1 : zOb 2 a1) : zX q (d + 5) 38 0 [.val (.ref t), .val (.ref a1), .val (.int a2), .val (.int a3), .unset, .unset, .unset, .unset, .unset] [] M (f38_giveTo t a1 a2 a3 M) zEv := by
  unfold f38_giveTo
  refine zX_aln0 (p := 1) d_38_0 rfl (zX_gr (p := 4) (b := (t + 20)) d_38_1 ow_38 gf_1_35 ht (zr_1_3 hL ht) rfl (zX_iln2 (p := 5) d_38_4 rfl (zX_aln1 (p := 6) d_38_5 rfl (zX_cV0i (p := 9) ⟨ow_39, by decide, zdr_39⟩ ha1 d_38_6 ow_38 rs_1_174 kk_39 rfl (s39 hL ha1) rfl rfl rfl rfl (fun v1 => ?_)))))
  refine zX_aln1 (p := 10) d_38_9 rfl (zX_gi (p := 13) d_38_10 ow_38 gf_1_178 ha1 rfl (zX_cV3i (p := 16) ⟨ow_40, by decide, zdr_40⟩ (zso_1_3 ht) d_38_13 ow_38 rs_1_181 kk_40 rfl (s40 hL (zso_1_3 ht)) rfl rfl rfl rfl (fun v2 => ?_)))
  refine zX_is4 (p := 18) d_38_16 rfl (zX_aln0 (p := 19) d_38_18 rfl (zX_gr (p := 22) (b := (t + 20)) d_38_19 ow_38 gf_1_35 ht (zr_1_3 hL ht) rfl (zX_il4 (p := 24) d_38_22 rfl (zX_aln0 (p := 25) d_38_24 rfl (zX_gr (p := 28) (b := (t + 20)) d_38_25 ow_38 gf_1_35 ht (zr_1_3 hL ht) rfl (zX_gr (p := 31) (b := (t + 22)) d_38_28 ow_38 gf_1_184 (zso_1_3 ht) (zr_6_1 hL (zso_1_3 ht)) rfl (zX_cV2i (p := 34) ⟨ow_42, by decide, zdr_42⟩ (zso_1_3 ht) d_38_31 ow_38 rs_1_187 kk_42 rfl (s42 hL (zso_1_3 ht) (zAr_al (zsa_6_1 (zso_1_3 ht))).1) rfl rfl rfl rfl (fun v3 => ?_))))))))
  refine zX_is5 (p := 36) d_38_34 rfl (zX_aln1 (p := 37) d_38_36 rfl (zX_dup (p := 38) d_38_37 rfl rfl (zX_gi (p := 41) d_38_38 ow_38 gf_1_178 ha1 rfl (zX_il4 (p := 43) d_38_41 rfl (zX_or (p := 44) d_38_43 rfl (zX_pi (p := 47) d_38_44 ow_38 gf_1_178 ha1 rfl (fun M4 => ?_)))))))
  refine zX_aln1 (p := 48) d_38_47 rfl (zX_dup (p := 49) d_38_48 rfl rfl (zX_gi (p := 52) d_38_49 ow_38 gf_1_190 ha1 rfl (zX_aln0 (p := 53) d_38_52 rfl (zX_gr (p := 56) (b := (t + 20)) d_38_53 ow_38 gf_1_35 ht (zr_1_3 hL ht) rfl (zX_il4 (p := 58) d_38_56 rfl (zX_aln0 (p := 59) d_38_58 rfl (zX_gr (p := 62) (b := (t + 20)) d_38_59 ow_38 gf_1_35 ht (zr_1_3 hL ht) rfl ?_)))))))
  refine zX_gr (p := 65) (b := (t + 23)) d_38_62 ow_38 gf_1_193 (zso_1_3 ht) (zr_6_2 hL (zso_1_3 ht)) rfl (zX_cV2i (p := 68) ⟨ow_42, by decide, zdr_42⟩ (zso_1_3 ht) d_38_65 ow_38 rs_1_187 kk_42 rfl (s42 hL (zso_1_3 ht) (zAr_al (zsa_6_2 (zso_1_3 ht))).1) rfl rfl rfl rfl (fun v5 => ?_))
  refine zX_add (p := 69) d_38_68 rfl (zX_pi (p := 72) d_38_69 ow_38 gf_1_190 ha1 rfl (fun M6 => ?_))
  refine zX_aln0 (p := 73) d_38_72 rfl (zX_aln1 (p := 74) d_38_73 rfl (zX_si (p := 77) d_38_74 cs_257 rfl (zX_iln2 (p := 78) d_38_77 rfl (zX_il5 (p := 80) d_38_78 rfl (zX_cV4m (p := 83) ⟨ow_27, by decide, zdr_27⟩ ht d_38_80 ow_38 rs_1_142 kk_27 rfl (s27 hL ht ha1) rfl rfl rfl rfl (fun v7 M8 => ?_))))))
  try dsimp only
  refine zX_is6 (p := 85) d_38_83 rfl (zX_aln0 (p := 86) d_38_85 rfl (zX_aln1 (p := 87) d_38_86 rfl (zX_si (p := 90) d_38_87 cs_258 rfl (zX_iln2 (p := 91) d_38_90 rfl (zX_il5 (p := 93) d_38_91 rfl (zX_cV4m (p := 96) ⟨ow_27, by decide, zdr_27⟩ ht d_38_93 ow_38 rs_1_142 kk_27 rfl (s27 hL ht ha1) rfl rfl rfl rfl (fun v9 M10 => ?_)))))))
  try dsimp only
  refine zX_is7 (p := 98) d_38_96 rfl (zX_aln1 (p := 99) d_38_98 rfl (zX_il6 (p := 101) d_38_99 rfl (zX_cV1v (p := 104) ⟨ow_23, by decide, zdr_23⟩ ha1 d_38_101 ow_38 rs_1_195 kk_23 rfl (s23 hL ha1) rfl rfl rfl rfl (fun M11 => ?_))))
  refine zX_iln3 (p := 105) d_38_104 rfl ?_
  refine zX_zeq (p1 := 156) (p2 := 108) d_38_105 (by decide) rfl ?_ ?_
  · exact zX_retv d_38_156 rt_38
  · refine zX_aln1 (p := 109) d_38_108 rfl (zX_si (p := 112) d_38_109 cs_1000 rfl (zX_cV1m (p := 115) ⟨ow_44, by decide, zdr_44⟩ ha1 d_38_112 ow_38 rs_1_199 kk_44 rfl (s44 hL ha1) rfl rfl rfl rfl (fun v12 M13 => ?_)))
    try dsimp only
    refine zX_il7 (p := 117) d_38_115 rfl ?_
    refine zX_bind (σ := Unit) (β := Int32) (pj := 125) (lj := fun (b : Int32) (s : Unit) => [.val (.ref t), .val (.ref a1), .val (.int a2), .val (.int a3), .val (.int v2), .val (.int v3), .val (.int v7), .val (.int v9), .unset]) (sj := fun b => [.int b]) (mj := fun b => M13) ?_ ?_
    · refine zX_cge (p1 := 124) (p2 := 120) d_38_117 (by decide) rfl ?_ ?_
      · refine zX_ic (p := 125) d_38_124 ci_0 rfl ?_
        exact zX_leaf (fun _ _ h => h ())
      · refine zX_ic (p := 121) d_38_120 ci_1 rfl (zX_goto (p := 125) d_38_121 (by decide) ?_)
        exact zX_leaf (fun _ _ h => h ())
    · rintro v14 _
      try dsimp only
      refine zX_is8 (p := 127) d_38_125 rfl (zX_aln1 (p := 128) d_38_127 rfl (zX_dup (p := 129) d_38_128 rfl rfl (zX_gi (p := 132) d_38_129 ow_38 gf_1_202 ha1 rfl (zX_il8 (p := 134) d_38_132 rfl ?_))))
      refine zX_bind (σ := Unit) (β := Int32) (pj := 142) (lj := fun (b : Int32) (s : Unit) => [.val (.ref t), .val (.ref a1), .val (.int a2), .val (.int a3), .val (.int v2), .val (.int v3), .val (.int v7), .val (.int v9), .val (.int v14)]) (sj := fun b => [.int b, .int (M13 a1 6), .ref a1]) (mj := fun b => M13) ?_ ?_
      · refine zX_zeq (p1 := 141) (p2 := 137) d_38_134 (by decide) rfl ?_ ?_
        · refine zX_ic (p := 142) d_38_141 ci_0 rfl ?_
          exact zX_leaf (fun _ _ h => h ())
        · refine zX_ic (p := 138) d_38_137 ci_1 rfl (zX_goto (p := 142) d_38_138 (by decide) ?_)
          exact zX_leaf (fun _ _ h => h ())
      · rintro v15 _
        try dsimp only
        refine zX_add (p := 143) d_38_142 rfl (zX_pi (p := 146) d_38_143 ow_38 gf_1_202 ha1 rfl (fun M16 => ?_))
        refine zX_aln0 (p := 147) d_38_146 rfl (zX_aln1 (p := 148) d_38_147 rfl (zX_iln2 (p := 149) d_38_148 rfl (zX_il4 (p := 151) d_38_149 rfl (zX_il8 (p := 153) d_38_151 rfl (zX_cV4v (p := 156) ⟨ow_45, by decide, zdr_45⟩ ht d_38_153 ow_38 rs_1_205 kk_45 rfl (s45 hL ht ha1) rfl rfl rfl rfl (fun M17 => ?_))))))
        exact zX_retv d_38_156 rt_38

theorem s47_l2 {q : ZQ} {d : Nat} (hL : zLay q) {t : Nat} {a1 : Int32} {a2 : Int32} (ht : zOb 2 t) : ∀ (n : Nat) (x1 : Int32) (M2 : ZI), zX q d 47 2 [.val (.ref t), .val (.int a1), .val (.int a2), .val (.int x1)] [] M2 (f47_l2 t a1 a2 n x1 M2) (zEj q d 47 73 (fun (b : ZI) (s : Slot) => [.val (.ref t), .val (.int a1), .val (.int a2), s]) (fun b => []) (fun b => b)) := by
  intro n
  induction n with
  | zero => intros; exact zX_none
  | succ n ih =>
    intro x1 M2
    rw [f47_l2]
    refine zX_iln3 (p := 3) d_47_2 rfl (zX_iln1 (p := 4) d_47_3 rfl ?_)
    refine zX_cge (p1 := 73) (p2 := 7) d_47_4 (by decide) rfl ?_ ?_
    · exact zX_leaf (fun _ _ h => h (.val (.int x1)))
    · refine zX_iln3 (p := 8) d_47_7 rfl (zX_bi (p := 10) d_47_8 cb_10 rfl ?_)
      refine zX_cge (p1 := 73) (p2 := 13) d_47_10 (by decide) rfl ?_ ?_
      · exact zX_leaf (fun _ _ h => h (.val (.int x1)))
      · refine zX_iln3 (p := 14) d_47_13 rfl (zX_iln2 (p := 15) d_47_14 rfl ?_)
        refine zX_bind (σ := Unit) (β := ZI) (pj := 48) (lj := fun (b : ZI) (s : Unit) => [.val (.ref t), .val (.int a1), .val (.int a2), .val (.int x1)]) (sj := fun b => []) (mj := fun b => b) ?_ ?_
        · refine zX_cne (p1 := 38) (p2 := 18) d_47_15 (by decide) rfl ?_ ?_
          · refine zX_aln0 (p := 39) d_47_38 rfl (zX_gr (p := 42) (b := (t + 3)) d_47_39 ow_47 gf_2_18 ht (zr_2_2 hL ht) rfl (zX_iln3 (p := 43) d_47_42 rfl (zX_dup2 (p := 44) d_47_43 rfl rfl rfl (zX_iag (p := 45) d_47_44 (zsa_2_2 ht) rfl (zX_ic (p := 46) d_47_45 ci_1 rfl (zX_add (p := 47) d_47_46 rfl (zX_itg (p := 48) d_47_47 (zsa_2_2 ht) rfl (fun M3 => ?_))))))))
            exact zX_leaf (fun _ _ h => h ())
          · refine zX_aln0 (p := 19) d_47_18 rfl (zX_gr (p := 22) (b := (t + 2)) d_47_19 ow_47 gf_2_15 ht (zr_2_1 hL ht) rfl (zX_iln3 (p := 23) d_47_22 rfl (zX_dup2 (p := 24) d_47_23 rfl rfl rfl (zX_iag (p := 25) d_47_24 (zsa_2_1 ht) rfl (zX_ic (p := 26) d_47_25 ci_1 rfl (zX_add (p := 27) d_47_26 rfl (zX_itg (p := 28) d_47_27 (zsa_2_1 ht) rfl (fun M4 => ?_))))))))
            refine zX_aln0 (p := 29) d_47_28 rfl (zX_gr (p := 32) (b := (t + 3)) d_47_29 ow_47 gf_2_18 ht (zr_2_2 hL ht) rfl (zX_iln3 (p := 33) d_47_32 rfl (zX_ic (p := 34) d_47_33 ci_0 rfl (zX_itg (p := 35) d_47_34 (zsa_2_2 ht) rfl (fun M5 => ?_)))))
            refine zX_goto (p := 48) d_47_35 (by decide) ?_
            exact zX_leaf (fun _ _ h => h ())
        · rintro M6 _
          try dsimp only
          refine zX_aln0 (p := 49) d_47_48 rfl (zX_gr (p := 52) (b := (t + 1)) d_47_49 ow_47 gf_2_9 ht (zr_2_0 hL ht) rfl (zX_iln3 (p := 53) d_47_52 rfl (zX_bi (p := 55) d_47_53 cb_99 rfl (zX_aln0 (p := 56) d_47_55 rfl (zX_gr (p := 59) (b := (t + 1)) d_47_56 ow_47 gf_2_9 ht (zr_2_0 hL ht) rfl (zX_iln3 (p := 60) d_47_59 rfl (zX_iag (p := 61) d_47_60 (zsa_2_0 ht) rfl ?_)))))))
          refine zX_ic (p := 62) d_47_61 ci_1 rfl (zX_add (p := 63) d_47_62 rfl (zX_min (p := 66) d_47_63 ow_47 rs_2_52 rfl rfl (zX_itg (p := 67) d_47_66 (zsa_2_0 ht) rfl (fun M7 => ?_))))
          refine zX_ii3 (p := 70) d_47_67 ci_1 rfl (zX_goto (p := 2) d_47_70 (by decide) ?_)
          exact ih (x1 + (1 : Int32)) M7

theorem s47 {q : ZQ} {d : Nat} (hL : zLay q) {t : Nat} {a1 : Int32} {a2 : Int32} {M : ZI} (ht : zOb 2 t) : zX q d 47 0 [.val (.ref t), .val (.int a1), .val (.int a2), .unset] [] M (f47_growOlder t a1 a2 M) zEv := by
  unfold f47_growOlder
  refine zX_ic (p := 1) d_47_0 ci_0 rfl (zX_isn3 (p := 2) d_47_1 rfl ?_)
  refine zX_bind (s47_l2 hL ht zfu (0 : Int32) M) ?_
  rintro M8 s9
  try dsimp only
  refine zX_aln0 (p := 74) d_47_73 rfl (zX_dup (p := 75) d_47_74 rfl rfl (zX_gi (p := 78) d_47_75 ow_47 gf_2_34 ht rfl (zX_ic (p := 79) d_47_78 ci_1 rfl (zX_add (p := 80) d_47_79 rfl (zX_pi (p := 83) d_47_80 ow_47 gf_2_34 ht rfl (fun M10 => ?_))))))
  exact zX_retv d_47_83 rt_47

theorem s25 {q : ZQ} {d : Nat} (hL : zLay q) {t : Nat} {a1 : Nat} {a2 : Int32} {M : ZI} (ht : zOb 1 t) (ha1 : zOb 2 a1) : zX q (d + 6) 25 0 [.val (.ref t), .val (.ref a1), .val (.int a2), .unset] [] M (f25_pass t a1 a2 M) zEm := by
  unfold f25_pass
  refine zX_bi (p := 2) d_25_0 cb_m2 rfl (zX_isn3 (p := 3) d_25_2 rfl (zX_aln1 (p := 4) d_25_3 rfl (zX_gi (p := 7) d_25_4 ow_25 gf_1_122 ha1 rfl (zX_aln0 (p := 8) d_25_7 rfl (zX_gi (p := 11) d_25_8 ow_25 gf_1_73 ht rfl ?_)))))
  refine zX_bind (σ := Unit) (β := Int32 × ZI) (pj := 46) (lj := fun (b : Int32 × ZI) (s : Unit) => [.val (.ref t), .val (.ref a1), .val (.int a2), .val (.int b.1)]) (sj := fun b => []) (mj := fun b => b.2) ?_ ?_
  · refine zX_clt (p1 := 34) (p2 := 14) d_25_11 (by decide) rfl ?_ ?_
    · refine zX_aln0 (p := 35) d_25_34 rfl (zX_aln1 (p := 36) d_25_35 rfl (zX_cV1v (p := 39) ⟨ow_26, by decide, zdr_26⟩ ht d_25_36 ow_25 rs_1_156 kk_26 rfl (s26 hL ht ha1) rfl rfl rfl rfl (fun M1 => ?_)))
      refine zX_aln0 (p := 40) d_25_39 rfl (zX_ic (p := 41) d_25_40 ci_m1 rfl (zX_ic (p := 42) d_25_41 ci_m1 rfl (zX_cV2m (p := 45) ⟨ow_36, by decide, zdr_36⟩ ht d_25_42 ow_25 rs_1_159 kk_36 rfl (s36 hL ht) rfl rfl rfl rfl (fun v2 M3 => ?_))))
      try dsimp only
      refine zX_isn3 (p := 46) d_25_45 rfl ?_
      exact zX_leaf (fun _ _ h => h ())
    · refine zX_aln1 (p := 15) d_25_14 rfl (zX_ic (p := 16) d_25_15 ci_0 rfl (zX_aln1 (p := 17) d_25_16 rfl (zX_gi (p := 20) d_25_17 ow_25 gf_1_122 ha1 rfl (zX_aln0 (p := 21) d_25_20 rfl (zX_gi (p := 24) d_25_21 ow_25 gf_1_69 ht rfl (zX_sub (p := 25) d_25_24 rfl (zX_max (p := 28) d_25_25 ow_25 rs_1_150 rfl rfl ?_)))))))
      refine zX_pi (p := 31) d_25_28 ow_25 gf_1_122 ha1 rfl (fun M4 => ?_)
      refine zX_goto (p := 46) d_25_31 (by decide) ?_
      exact zX_leaf (fun _ _ h => h ())
  · rintro ⟨x5, M6⟩ _
    try dsimp only
    refine zX_iln3 (p := 47) d_25_46 rfl ?_
    refine zX_bind (σ := Unit) (β := ZI) (pj := 85) (lj := fun (b : ZI) (s : Unit) => [.val (.ref t), .val (.ref a1), .val (.int a2), .val (.int x5)]) (sj := fun b => []) (mj := fun b => b) ?_ ?_
    · refine zX_zlt (p1 := 60) (p2 := 50) d_25_47 (by decide) rfl ?_ ?_
      · refine zX_iln2 (p := 61) d_25_60 rfl ?_
        refine zX_zeq (p1 := 85) (p2 := 64) d_25_61 (by decide) rfl ?_ ?_
        · exact zX_leaf (fun _ _ h => h ())
        · refine zX_aln0 (p := 65) d_25_64 rfl (zX_gr (p := 68) (b := (t + 6)) d_25_65 ow_25 gf_1_21 ht (zr_1_1 hL ht) rfl (zX_aln1 (p := 69) d_25_68 rfl (zX_iln3 (p := 70) d_25_69 rfl (zX_bi (p := 72) d_25_70 cb_m2 rfl ?_))))
          refine zX_bind (σ := Unit) (β := Int32) (pj := 80) (lj := fun (b : Int32) (s : Unit) => [.val (.ref t), .val (.ref a1), .val (.int a2), .val (.int x5)]) (sj := fun b => [.int b, .ref a1, .ref (t + 6)]) (mj := fun b => M6) ?_ ?_
          · refine zX_cne (p1 := 79) (p2 := 75) d_25_72 (by decide) rfl ?_ ?_
            · refine zX_ic (p := 80) d_25_79 ci_2 rfl ?_
              exact zX_leaf (fun _ _ h => h ())
            · refine zX_ic (p := 76) d_25_75 ci_1 rfl (zX_goto (p := 80) d_25_76 (by decide) ?_)
              exact zX_leaf (fun _ _ h => h ())
          · rintro v7 _
            try dsimp only
            refine zX_ic (p := 81) d_25_80 ci_m1 rfl (zX_ic (p := 82) d_25_81 ci_0 rfl (zX_cV4v (p := 85) ⟨ow_46, by decide, zdr_46⟩ (zso_1_1 ht) d_25_82 ow_25 rs_1_166 kk_46 rfl (s46 hL (zso_1_1 ht) ha1) rfl rfl rfl rfl (fun M8 => ?_)))
            exact zX_leaf (fun _ _ h => h ())
      · refine zX_aln0 (p := 51) d_25_50 rfl (zX_aln1 (p := 52) d_25_51 rfl (zX_iln3 (p := 53) d_25_52 rfl (zX_iln2 (p := 54) d_25_53 rfl (zX_cV3v (p := 57) ⟨ow_38, by decide, zdr_38⟩ ht d_25_54 ow_25 rs_1_162 kk_38 rfl (s38 hL ht ha1) rfl rfl rfl rfl (fun M9 => ?_)))))
        refine zX_goto (p := 85) d_25_57 (by decide) ?_
        exact zX_leaf (fun _ _ h => h ())
    · rintro M10 _
      try dsimp only
      refine zX_aln1 (p := 86) d_25_85 rfl (zX_aln0 (p := 87) d_25_86 rfl (zX_gi (p := 90) d_25_87 ow_25 gf_1_101 ht rfl (zX_iln3 (p := 91) d_25_90 rfl (zX_cV2v (p := 94) ⟨ow_47, by decide, zdr_47⟩ ha1 d_25_91 ow_25 rs_1_170 kk_47 rfl (s47 hL ha1) rfl rfl rfl rfl (fun M11 => ?_)))))
      refine zX_iln3 (p := 95) d_25_94 rfl ?_
      exact zX_retm d_25_95 rt_25

theorem s24_l34 {q : ZQ} {d : Nat} (hL : zLay q) {a1 : Int32} : ∀ (n : Nat) (x2 : Int32) (x3 : Int32) (M4 : ZI), zX q (d + 7) 24 34 [.val (.ref 0), .val (.int a1), .val (.int x2), .val (.int x3)] [] M4 (f24_l34 a1 n x2 x3 M4) (zEj q (d + 7) 24 70 (fun (b : Int32 × ZI) (s : Slot) => [.val (.ref 0), .val (.int a1), .val (.int b.1), s]) (fun b => []) (fun b => b.2)) := by
  intro n
  induction n with
  | zero => intros; exact zX_none
  | succ n ih =>
    intro x2 x3 M4
    rw [f24_l34]
    refine zX_iln3 (p := 35) d_24_34 rfl (zX_iln1 (p := 36) d_24_35 rfl ?_)
    refine zX_cge (p1 := 70) (p2 := 39) d_24_36 (by decide) rfl ?_ ?_
    · exact zX_leaf (fun _ _ h => h (.val (.int x3)))
    · refine zX_aln0 (p := 40) d_24_39 rfl (zX_cV0v (p := 43) ⟨ow_20, by decide, zdr_20⟩ zo_0 d_24_40 ow_24 rs_0_105 kk_20 rfl (s20 hL) rfl rfl rfl rfl (fun M5 => ?_))
      refine zX_aln0 (p := 44) d_24_43 rfl (zX_gr (p := 47) (b := 1) d_24_44 ow_24 gf_0_10 zo_0 (zr_0_0 hL zo_0) rfl (zX_aln0 (p := 48) d_24_47 rfl (zX_gr (p := 51) (b := 1) d_24_48 ow_24 gf_0_10 zo_0 (zr_0_0 hL zo_0) rfl (zX_gr (p := 54) (b := 2) d_24_51 ow_24 gf_0_52 zo_1 (zr_1_0 hL zo_1) rfl (zX_ic (p := 55) d_24_54 ci_1 rfl (zX_cV2m (p := 58) ⟨ow_25, by decide, zdr_25⟩ zo_1 d_24_55 ow_24 rs_0_115 kk_25 rfl (s25 hL zo_1 zo_2) rfl rfl rfl rfl (fun v6 M7 => ?_)))))))
      try dsimp only
      refine zX_zlt (p1 := 64) (p2 := 61) d_24_58 (by decide) rfl ?_ ?_
      · refine zX_ii3 (p := 67) d_24_64 ci_1 rfl (zX_goto (p := 34) d_24_67 (by decide) ?_)
        exact ih x2 (x3 + (1 : Int32)) M7
      · refine zX_ii2 (p := 64) d_24_61 ci_1 rfl (zX_ii3 (p := 67) d_24_64 ci_1 rfl (zX_goto (p := 34) d_24_67 (by decide) ?_))
        exact ih (x2 + (1 : Int32)) (x3 + (1 : Int32)) M7

theorem s24 {q : ZQ} {d : Nat} (hL : zLay q) {a1 : Int32} {M : ZI} : zX q (d + 7) 24 0 [.val (.ref 0), .val (.int a1), .unset, .unset] [] M (f24_years a1 M) zEm := by
  unfold f24_years
  refine zX_iln1 (p := 1) d_24_0 rfl (zX_ic (p := 2) d_24_1 ci_1 rfl (zX_bi (p := 4) d_24_2 cb_40 rfl (zX_cS3i (p := 7) d_24_4 ow_24 rs_0_61 kk_13 rfl (s13 hL) rfl rfl rfl rfl (fun v1 => ?_))))
  refine zX_zeq (p1 := 28) (p2 := 10) d_24_7 (by decide) rfl ?_ ?_
  · refine zX_ic (p := 29) d_24_28 ci_m1 rfl ?_
    exact zX_retm d_24_29 rt_24
  · refine zX_aln0 (p := 11) d_24_10 rfl (zX_gr (p := 14) (b := 1) d_24_11 ow_24 gf_0_10 zo_0 (zr_0_0 hL zo_0) rfl (zX_gr (p := 17) (b := 2) d_24_14 ow_24 gf_0_52 zo_1 (zr_1_0 hL zo_1) rfl (zX_gi (p := 20) d_24_17 ow_24 gf_0_112 zo_2 rfl (zX_iln1 (p := 21) d_24_20 rfl (zX_add (p := 22) d_24_21 rfl (zX_si (p := 25) d_24_22 cs_999 rfl ?_))))))
    refine zX_cle (p1 := 30) (p2 := 28) d_24_25 (by decide) rfl ?_ ?_
    · refine zX_ic (p := 31) d_24_30 ci_0 rfl (zX_isn2 (p := 32) d_24_31 rfl (zX_ic (p := 33) d_24_32 ci_0 rfl (zX_isn3 (p := 34) d_24_33 rfl ?_)))
      refine zX_bind (s24_l34 hL zfu (0 : Int32) (0 : Int32) M) ?_
      rintro ⟨x8, M9⟩ s10
      try dsimp only
      refine zX_iln2 (p := 71) d_24_70 rfl ?_
      exact zX_retm d_24_71 rt_24
    · refine zX_ic (p := 29) d_24_28 ci_m1 rfl ?_
      exact zX_retm d_24_29 rt_24

theorem s49 {q : ZQ} {d : Nat} (hL : zLay q) {t : Nat} {a1 : Int32} {M : ZI} (ht : zOb 9 t) : zX q d 49 0 [.val (.ref t), .val (.int a1)] [] M (f49_hasRoom t a1 M) (zEi M) := by
  unfold f49_hasRoom
  refine zX_aln0 (p := 1) d_49_0 rfl (zX_gi (p := 4) d_49_1 ow_49 gf_9_52 ht rfl (zX_iln1 (p := 5) d_49_4 rfl (zX_add (p := 6) d_49_5 rfl (zX_si (p := 9) d_49_6 cs_400 rfl ?_))))
  refine zX_cgt (p1 := 16) (p2 := 12) d_49_9 (by decide) rfl ?_ ?_
  · refine zX_ic (p := 17) d_49_16 ci_0 rfl ?_
    exact zX_retib d_49_17 rt_49 (Or.inl rfl)
  · refine zX_ic (p := 13) d_49_12 ci_1 rfl (zX_goto (p := 17) d_49_13 (by decide) ?_)
    exact zX_retib d_49_17 rt_49 (Or.inr rfl)

theorem s50_l3 {q : ZQ} {d : Nat} (hL : zLay q) {t : Nat} {a1 : Int32} (ht : zOb 9 t) : ∀ (n : Nat) (x1 : Int32) (M2 : ZI), zX q d 50 3 [.val (.ref t), .val (.int a1), .val (.int x1)] [] M2 (f50_l3 t a1 n x1 M2) (zEj q d 50 49 (fun (b : ZI) (s : Slot) => [.val (.ref t), .val (.int a1), s]) (fun b => []) (fun b => b)) := by
  intro n
  induction n with
  | zero => intros; exact zX_none
  | succ n ih =>
    intro x1 M2
    rw [f50_l3]
    refine zX_iln2 (p := 4) d_50_3 rfl ?_
    refine zX_zlt (p1 := 49) (p2 := 7) d_50_4 (by decide) rfl ?_ ?_
    · exact zX_leaf (fun _ _ h => h (.val (.int x1)))
    · refine zX_aln0 (p := 8) d_50_7 rfl (zX_gi (p := 11) d_50_8 ow_50 gf_9_52 ht rfl (zX_si (p := 14) d_50_11 cs_400 rfl ?_))
      refine zX_cge (p1 := 49) (p2 := 17) d_50_14 (by decide) rfl ?_ ?_
      · exact zX_leaf (fun _ _ h => h (.val (.int x1)))
      · refine zX_aln0 (p := 18) d_50_17 rfl (zX_gr (p := 21) (b := (t + 1)) d_50_18 ow_50 gf_9_9 ht (zr_9_0 hL ht) rfl (zX_aln0 (p := 22) d_50_21 rfl (zX_gi (p := 25) d_50_22 ow_50 gf_9_52 ht rfl (zX_iln1 (p := 26) d_50_25 rfl (zX_iln2 (p := 27) d_50_26 rfl (zX_ush (p := 28) d_50_27 rfl (zX_si (p := 31) d_50_28 cs_255 rfl ?_)))))))
        refine zX_and (p := 32) d_50_31 rfl (zX_itg (p := 33) d_50_32 (zsa_9_0 ht) rfl (fun M3 => ?_))
        refine zX_aln0 (p := 34) d_50_33 rfl (zX_dup (p := 35) d_50_34 rfl rfl (zX_gi (p := 38) d_50_35 ow_50 gf_9_52 ht rfl (zX_ic (p := 39) d_50_38 ci_1 rfl (zX_add (p := 40) d_50_39 rfl (zX_pi (p := 43) d_50_40 ow_50 gf_9_52 ht rfl (fun M4 => ?_))))))
        refine zX_ii2 (p := 46) d_50_43 ci_m8 rfl (zX_goto (p := 3) d_50_46 (by decide) ?_)
        exact ih (x1 + (-8 : Int32)) M4

theorem s50 {q : ZQ} {d : Nat} (hL : zLay q) {t : Nat} {a1 : Int32} {M : ZI} (ht : zOb 9 t) : zX q d 50 0 [.val (.ref t), .val (.int a1), .unset] [] M (f50_append t a1 M) zEv := by
  unfold f50_append
  refine zX_bi (p := 2) d_50_0 cb_24 rfl (zX_isn2 (p := 3) d_50_2 rfl ?_)
  refine zX_bind (s50_l3 hL ht zfu (24 : Int32) M) ?_
  rintro M5 s6
  try dsimp only
  exact zX_retv d_50_49 rt_50

theorem s48 {q : ZQ} {d : Nat} (hL : zLay q) {a1 : Int32} {a2 : Int32} {a3 : Int32} {a4 : Int32} {a5 : Int32} {M : ZI} : zX q (d + 1) 48 0 [.val (.ref 0), .val (.int a1), .val (.int a2), .val (.int a3), .val (.int a4), .val (.int a5)] [] M (f48_feed a1 a2 a3 a4 a5 M) zEm := by
  unfold f48_feed
  refine zX_aln0 (p := 1) d_48_0 rfl (zX_gr (p := 4) (b := 119) d_48_1 ow_48 gf_0_44 zo_0 (zr_0_7 hL zo_0) rfl (zX_bi (p := 6) d_48_4 cb_20 rfl (zX_cV1i (p := 9) ⟨ow_49, by decide, zdr_49⟩ zo_119 d_48_6 ow_48 rs_0_119 kk_49 rfl (s49 hL zo_119) rfl rfl rfl rfl (fun v1 => ?_))))
  refine zX_zne (p1 := 14) (p2 := 12) d_48_9 (by decide) rfl ?_ ?_
  · refine zX_aln0 (p := 15) d_48_14 rfl (zX_gr (p := 18) (b := 119) d_48_15 ow_48 gf_0_44 zo_0 (zr_0_7 hL zo_0) rfl (zX_iln1 (p := 19) d_48_18 rfl (zX_cV1v (p := 22) ⟨ow_50, by decide, zdr_50⟩ zo_119 d_48_19 ow_48 rs_0_122 kk_50 rfl (s50 hL zo_119) rfl rfl rfl rfl (fun M2 => ?_))))
    refine zX_aln0 (p := 23) d_48_22 rfl (zX_gr (p := 26) (b := 119) d_48_23 ow_48 gf_0_44 zo_0 (zr_0_7 hL zo_0) rfl (zX_iln2 (p := 27) d_48_26 rfl (zX_cV1v (p := 30) ⟨ow_50, by decide, zdr_50⟩ zo_119 d_48_27 ow_48 rs_0_122 kk_50 rfl (s50 hL zo_119) rfl rfl rfl rfl (fun M3 => ?_))))
    refine zX_aln0 (p := 31) d_48_30 rfl (zX_gr (p := 34) (b := 119) d_48_31 ow_48 gf_0_44 zo_0 (zr_0_7 hL zo_0) rfl (zX_iln3 (p := 35) d_48_34 rfl (zX_cV1v (p := 38) ⟨ow_50, by decide, zdr_50⟩ zo_119 d_48_35 ow_48 rs_0_122 kk_50 rfl (s50 hL zo_119) rfl rfl rfl rfl (fun M4 => ?_))))
    refine zX_aln0 (p := 39) d_48_38 rfl (zX_gr (p := 42) (b := 119) d_48_39 ow_48 gf_0_44 zo_0 (zr_0_7 hL zo_0) rfl (zX_il4 (p := 44) d_48_42 rfl (zX_cV1v (p := 47) ⟨ow_50, by decide, zdr_50⟩ zo_119 d_48_44 ow_48 rs_0_122 kk_50 rfl (s50 hL zo_119) rfl rfl rfl rfl (fun M5 => ?_))))
    refine zX_aln0 (p := 48) d_48_47 rfl (zX_gr (p := 51) (b := 119) d_48_48 ow_48 gf_0_44 zo_0 (zr_0_7 hL zo_0) rfl (zX_il5 (p := 53) d_48_51 rfl (zX_cV1v (p := 56) ⟨ow_50, by decide, zdr_50⟩ zo_119 d_48_53 ow_48 rs_0_122 kk_50 rfl (s50 hL zo_119) rfl rfl rfl rfl (fun M6 => ?_))))
    refine zX_aln0 (p := 57) d_48_56 rfl (zX_gr (p := 60) (b := 119) d_48_57 ow_48 gf_0_44 zo_0 (zr_0_7 hL zo_0) rfl (zX_gi (p := 63) d_48_60 ow_48 gf_0_125 zo_119 rfl ?_))
    exact zX_retm d_48_63 rt_48
  · refine zX_ic (p := 13) d_48_12 ci_m1 rfl ?_
    exact zX_retm d_48_13 rt_48

theorem s51 {q : ZQ} {d : Nat} (hL : zLay q) {a1 : Int32} {M : ZI} : zX q (d + 1) 51 0 [.val (.ref 0), .val (.int a1)] [] M (f51_end a1 M) zEm := by
  unfold f51_end
  refine zX_iln1 (p := 1) d_51_0 rfl (zX_ic (p := 2) d_51_1 ci_0 rfl (zX_aln0 (p := 3) d_51_2 rfl (zX_gr (p := 6) (b := 119) d_51_3 ow_51 gf_0_44 zo_0 (zr_0_7 hL zo_0) rfl (zX_gi (p := 9) d_51_6 ow_51 gf_0_125 zo_119 rfl (zX_cS3i (p := 12) d_51_9 ow_51 rs_0_61 kk_13 rfl (s13 hL) rfl rfl rfl rfl (fun v1 => ?_))))))
  refine zX_zne (p1 := 17) (p2 := 15) d_51_12 (by decide) rfl ?_ ?_
  · refine zX_aln0 (p := 18) d_51_17 rfl (zX_gr (p := 21) (b := 119) d_51_18 ow_51 gf_0_44 zo_0 (zr_0_7 hL zo_0) rfl (zX_iln1 (p := 22) d_51_21 rfl (zX_pi (p := 25) d_51_22 ow_51 gf_0_125 zo_119 rfl (fun M2 => ?_))))
    refine zX_ic (p := 26) d_51_25 ci_1 rfl ?_
    exact zX_retmb d_51_26 rt_51 (Or.inr rfl)
  · refine zX_ic (p := 16) d_51_15 ci_0 rfl ?_
    exact zX_retmb d_51_16 rt_51 (Or.inl rfl)

theorem s55 {q : ZQ} {d : Nat} (hL : zLay q) {a0 : Int32} {M : ZI} : zX q d 55 0 [.val (.int a0)] [] M (f55_isLetter a0) (zEi M) := by
  unfold f55_isLetter
  refine zX_iln0 (p := 1) d_55_0 rfl (zX_bi (p := 3) d_55_1 cb_97 rfl ?_)
  refine zX_jn (P := fun g => ∀ (_ : Unit), zX q d 55 12 [.val (.int a0)] [] M (g ()) (zEi M)) ?_ (fun j1 hj1 => ?_)
  · intro _
    try dsimp only
    refine zX_iln0 (p := 13) d_55_12 rfl (zX_bi (p := 15) d_55_13 cb_65 rfl ?_)
    refine zX_clt (p1 := 28) (p2 := 18) d_55_15 (by decide) rfl ?_ ?_
    · refine zX_ic (p := 29) d_55_28 ci_0 rfl ?_
      exact zX_retib d_55_29 rt_55 (Or.inl rfl)
    · refine zX_iln0 (p := 19) d_55_18 rfl (zX_bi (p := 21) d_55_19 cb_90 rfl ?_)
      refine zX_cgt (p1 := 28) (p2 := 24) d_55_21 (by decide) rfl ?_ ?_
      · refine zX_ic (p := 29) d_55_28 ci_0 rfl ?_
        exact zX_retib d_55_29 rt_55 (Or.inl rfl)
      · refine zX_ic (p := 25) d_55_24 ci_1 rfl (zX_goto (p := 29) d_55_25 (by decide) ?_)
        exact zX_retib d_55_29 rt_55 (Or.inr rfl)
  · refine zX_clt (p1 := 12) (p2 := 6) d_55_3 (by decide) rfl ?_ ?_
    · exact hj1 ()
    · refine zX_iln0 (p := 7) d_55_6 rfl (zX_bi (p := 9) d_55_7 cb_122 rfl ?_)
      refine zX_cle (p1 := 24) (p2 := 12) d_55_9 (by decide) rfl ?_ ?_
      · refine zX_ic (p := 25) d_55_24 ci_1 rfl (zX_goto (p := 29) d_55_25 (by decide) ?_)
        exact zX_retib d_55_29 rt_55 (Or.inr rfl)
      · exact hj1 ()

theorem s56_l13 {q : ZQ} {d : Nat} (hL : zLay q) {t : Nat} {a1 : Int32} {a2 : Int32} {M : ZI} (ht : zOb 9 t) : ∀ (n : Nat) (x1 : Int32) (x2 : Int32) (x3 : Int32) (x4 : Int32) (s5 : Slot), zX q (d + 6) 56 13 [.val (.ref t), .val (.int a1), .val (.int a2), .val (.int x1), .val (.int x2), .val (.int x3), .val (.int x4), s5] [] M (f56_l13 t a1 a2 M n x1 x2 x3 x4) (zEi M) := by
  intro n
  induction n with
  | zero => intros; exact zX_none
  | succ n ih =>
    intro x1 x2 x3 x4 s5
    rw [f56_l13]
    refine zX_il6 (p := 15) d_56_13 rfl (zX_ldcs (p := 17) d_56_15 ow_56 st_9_95 rfl (zX_slen (p := 20) d_56_17 ow_56 rs_9_97 zsh_0 rfl rfl rfl ?_))
    refine zX_cge (p1 := 103) (p2 := 23) d_56_20 (by decide) rfl ?_ ?_
    · refine zX_bi (p := 105) d_56_103 cb_m3 rfl ?_
      exact zX_reti d_56_105 rt_56
    · refine zX_ldcs (p := 25) d_56_23 ow_56 st_9_95 rfl (zX_il6 (p := 27) d_56_25 rfl (zX_sch (p := 30) d_56_27 ow_56 rs_9_103 zsh_0 rfl rfl rfl (zX_js7 (p := 32) d_56_30 rfl (fun x6 => ?_))))
      refine zX_il7 (p := 34) d_56_32 rfl (zX_bi (p := 36) d_56_34 cb_32 rfl ?_)
      refine zX_cne (p1 := 64) (p2 := 39) d_56_36 (by decide) rfl ?_ ?_
      · refine zX_il5 (p := 66) d_56_64 rfl ?_
        refine zX_zeq (p1 := 91) (p2 := 69) d_56_66 (by decide) rfl ?_ ?_
        · refine zX_ic (p := 92) d_56_91 ci_0 rfl (zX_is5 (p := 94) d_56_92 rfl (zX_ii4 (p := 97) d_56_94 ci_1 rfl (zX_ii6 (p := 100) d_56_97 ci_1 rfl (zX_goto (p := 13) d_56_100 (by decide) ?_))))
          exact ih x1 (x2 + (1 : Int32)) (0 : Int32) (x4 + (1 : Int32)) (.val (.int x6))
        · refine zX_il4 (p := 71) d_56_69 rfl (zX_iln2 (p := 72) d_56_71 rfl ?_)
          refine zX_cge (p1 := 91) (p2 := 75) d_56_72 (by decide) rfl ?_ ?_
          · refine zX_ic (p := 92) d_56_91 ci_0 rfl (zX_is5 (p := 94) d_56_92 rfl (zX_ii4 (p := 97) d_56_94 ci_1 rfl (zX_ii6 (p := 100) d_56_97 ci_1 rfl (zX_goto (p := 13) d_56_100 (by decide) ?_))))
            exact ih x1 (x2 + (1 : Int32)) (0 : Int32) (x4 + (1 : Int32)) (.val (.int x6))
          · refine zX_aln0 (p := 76) d_56_75 rfl (zX_gr (p := 79) (b := (t + 1)) d_56_76 ow_56 gf_9_9 ht (zr_9_0 hL ht) rfl (zX_il4 (p := 81) d_56_79 rfl (zX_iag (p := 82) d_56_81 (zsa_9_0 ht) rfl (zX_il7 (p := 84) d_56_82 rfl ?_))))
            refine zX_cne (p1 := 91) (p2 := 87) d_56_84 (by decide) rfl ?_ ?_
            · refine zX_ic (p := 92) d_56_91 ci_0 rfl (zX_is5 (p := 94) d_56_92 rfl (zX_ii4 (p := 97) d_56_94 ci_1 rfl (zX_ii6 (p := 100) d_56_97 ci_1 rfl (zX_goto (p := 13) d_56_100 (by decide) ?_))))
              exact ih x1 (x2 + (1 : Int32)) (0 : Int32) (x4 + (1 : Int32)) (.val (.int x6))
            · refine zX_ic (p := 88) d_56_87 ci_1 rfl (zX_goto (p := 92) d_56_88 (by decide) (zX_is5 (p := 94) d_56_92 rfl (zX_ii4 (p := 97) d_56_94 ci_1 rfl (zX_ii6 (p := 100) d_56_97 ci_1 rfl (zX_goto (p := 13) d_56_100 (by decide) ?_)))))
              exact ih x1 (x2 + (1 : Int32)) (1 : Int32) (x4 + (1 : Int32)) (.val (.int x6))
      · refine zX_il5 (p := 41) d_56_39 rfl ?_
        refine zX_jn (P := fun g => ∀ (_ : Unit), zX q (d + 6) 56 52 [.val (.ref t), .val (.int a1), .val (.int a2), .val (.int x1), .val (.int x2), .val (.int x3), .val (.int x4), .val (.int x6)] [] M (g ()) (zEi M)) ?_ (fun j7 hj7 => ?_)
        · intro _
          try dsimp only
          refine zX_ii3 (p := 55) d_56_52 ci_1 rfl (zX_iln1 (p := 56) d_56_55 rfl (zX_is4 (p := 58) d_56_56 rfl (zX_ic (p := 59) d_56_58 ci_1 rfl (zX_is5 (p := 61) d_56_59 rfl (zX_goto (p := 97) d_56_61 (by decide) (zX_ii6 (p := 100) d_56_97 ci_1 rfl (zX_goto (p := 13) d_56_100 (by decide) ?_)))))))
          exact ih (x1 + (1 : Int32)) a1 (1 : Int32) (x4 + (1 : Int32)) (.val (.int x6))
        · refine zX_zeq (p1 := 52) (p2 := 44) d_56_41 (by decide) rfl ?_ ?_
          · exact hj7 ()
          · refine zX_il4 (p := 46) d_56_44 rfl (zX_iln2 (p := 47) d_56_46 rfl ?_)
            refine zX_cne (p1 := 52) (p2 := 50) d_56_47 (by decide) rfl ?_ ?_
            · exact hj7 ()
            · refine zX_iln3 (p := 51) d_56_50 rfl ?_
              exact zX_reti d_56_51 rt_56

theorem s56 {q : ZQ} {d : Nat} (hL : zLay q) {t : Nat} {a1 : Int32} {a2 : Int32} {M : ZI} (ht : zOb 9 t) : zX q (d + 6) 56 0 [.val (.ref t), .val (.int a1), .val (.int a2), .unset, .unset, .unset, .unset, .unset] [] M (f56_wordKind t a1 a2 M) (zEi M) := by
  unfold f56_wordKind
  refine zX_si (p := 3) d_56_0 cs_256 rfl (zX_isn3 (p := 4) d_56_3 rfl (zX_iln1 (p := 5) d_56_4 rfl (zX_is4 (p := 7) d_56_5 rfl (zX_ic (p := 8) d_56_7 ci_1 rfl (zX_is5 (p := 10) d_56_8 rfl (zX_ic (p := 11) d_56_10 ci_0 rfl (zX_is6 (p := 13) d_56_11 rfl ?_)))))))
  exact s56_l13 hL ht zfu (256 : Int32) a1 (1 : Int32) (0 : Int32) (.unset)

theorem s64 {q : ZQ} {d : Nat} (hL : zLay q) {t : Nat} {a1 : Int32} {a2 : Int32} {a3 : Int32} {M : ZI} (ht : zOb 9 t) : zX q d 64 0 [.val (.ref t), .val (.int a1), .val (.int a2), .val (.int a3)] [] M (f64_addToken t a1 a2 a3 M) zEv := by
  unfold f64_addToken
  refine zX_aln0 (p := 1) d_64_0 rfl (zX_gi (p := 4) d_64_1 ow_64 gf_9_70 ht rfl (zX_si (p := 7) d_64_4 cs_400 rfl ?_))
  refine zX_cgt (p1 := 50) (p2 := 10) d_64_7 (by decide) rfl ?_ ?_
  · exact zX_retv d_64_50 rt_64
  · refine zX_aln0 (p := 11) d_64_10 rfl (zX_gr (p := 14) (b := (t + 2)) d_64_11 ow_64 gf_9_15 ht (zr_9_2 hL ht) rfl (zX_aln0 (p := 15) d_64_14 rfl (zX_gi (p := 18) d_64_15 ow_64 gf_9_70 ht rfl (zX_iln1 (p := 19) d_64_18 rfl (zX_itg (p := 20) d_64_19 (zsa_9_2 ht) rfl (fun M1 => ?_))))))
    refine zX_aln0 (p := 21) d_64_20 rfl (zX_gr (p := 24) (b := (t + 3)) d_64_21 ow_64 gf_9_18 ht (zr_9_3 hL ht) rfl (zX_aln0 (p := 25) d_64_24 rfl (zX_gi (p := 28) d_64_25 ow_64 gf_9_70 ht rfl (zX_iln2 (p := 29) d_64_28 rfl (zX_itg (p := 30) d_64_29 (zsa_9_3 ht) rfl (fun M2 => ?_))))))
    refine zX_aln0 (p := 31) d_64_30 rfl (zX_gr (p := 34) (b := (t + 4)) d_64_31 ow_64 gf_9_21 ht (zr_9_4 hL ht) rfl (zX_aln0 (p := 35) d_64_34 rfl (zX_gi (p := 38) d_64_35 ow_64 gf_9_70 ht rfl (zX_iln3 (p := 39) d_64_38 rfl (zX_itg (p := 40) d_64_39 (zsa_9_4 ht) rfl (fun M3 => ?_))))))
    refine zX_aln0 (p := 41) d_64_40 rfl (zX_dup (p := 42) d_64_41 rfl rfl (zX_gi (p := 45) d_64_42 ow_64 gf_9_70 ht rfl (zX_ic (p := 46) d_64_45 ci_1 rfl (zX_add (p := 47) d_64_46 rfl (zX_pi (p := 50) d_64_47 ow_64 gf_9_70 ht rfl (fun M4 => ?_))))))
    exact zX_retv d_64_50 rt_64

theorem s65 {q : ZQ} {d : Nat} (hL : zLay q) {a0 : Int32} {M : ZI} : zX q d 65 0 [.val (.int a0)] [] M (f65_isDigit a0) (zEi M) := by
  unfold f65_isDigit
  refine zX_iln0 (p := 1) d_65_0 rfl (zX_bi (p := 3) d_65_1 cb_48 rfl ?_)
  refine zX_clt (p1 := 16) (p2 := 6) d_65_3 (by decide) rfl ?_ ?_
  · refine zX_ic (p := 17) d_65_16 ci_0 rfl ?_
    exact zX_retib d_65_17 rt_65 (Or.inl rfl)
  · refine zX_iln0 (p := 7) d_65_6 rfl (zX_bi (p := 9) d_65_7 cb_57 rfl ?_)
    refine zX_cgt (p1 := 16) (p2 := 12) d_65_9 (by decide) rfl ?_ ?_
    · refine zX_ic (p := 17) d_65_16 ci_0 rfl ?_
      exact zX_retib d_65_17 rt_65 (Or.inl rfl)
    · refine zX_ic (p := 13) d_65_12 ci_1 rfl (zX_goto (p := 17) d_65_13 (by decide) ?_)
      exact zX_retib d_65_17 rt_65 (Or.inr rfl)

theorem s66_l5 {q : ZQ} {d : Nat} (hL : zLay q) {t : Nat} {a1 : Int32} {a2 : Int32} {M : ZI} (ht : zOb 9 t) : ∀ (n : Nat) (x1 : Int32) (x2 : Int32), zX q d 66 5 [.val (.ref t), .val (.int a1), .val (.int a2), .val (.int x1), .val (.int x2)] [] M (f66_l5 t a2 M n x1 x2) (zEj q d 66 41 (fun (b : Int32) (s : Slot) => [.val (.ref t), .val (.int a1), .val (.int a2), .val (.int b), s]) (fun b => []) (fun b => M)) := by
  intro n
  induction n with
  | zero => intros; exact zX_none
  | succ n ih =>
    intro x1 x2
    rw [f66_l5]
    refine zX_il4 (p := 7) d_66_5 rfl (zX_iln2 (p := 8) d_66_7 rfl ?_)
    refine zX_cge (p1 := 41) (p2 := 11) d_66_8 (by decide) rfl ?_ ?_
    · exact zX_leaf (fun _ _ h => h (.val (.int x2)))
    · refine zX_il4 (p := 13) d_66_11 rfl (zX_si (p := 16) d_66_13 cs_400 rfl ?_)
      refine zX_cge (p1 := 41) (p2 := 19) d_66_16 (by decide) rfl ?_ ?_
      · exact zX_leaf (fun _ _ h => h (.val (.int x2)))
      · refine zX_iln3 (p := 20) d_66_19 rfl (zX_bi (p := 22) d_66_20 cb_10 rfl (zX_mul (p := 23) d_66_22 rfl (zX_aln0 (p := 24) d_66_23 rfl (zX_gr (p := 27) (b := (t + 1)) d_66_24 ow_66 gf_9_9 ht (zr_9_0 hL ht) rfl (zX_il4 (p := 29) d_66_27 rfl (zX_iag (p := 30) d_66_29 (zsa_9_0 ht) rfl (zX_add (p := 31) d_66_30 rfl ?_)))))))
        refine zX_bi (p := 33) d_66_31 cb_48 rfl (zX_sub (p := 34) d_66_33 rfl (zX_jsn3 (p := 35) d_66_34 rfl (fun x3 => ?_)))
        refine zX_ii4 (p := 38) d_66_35 ci_1 rfl (zX_goto (p := 5) d_66_38 (by decide) ?_)
        exact ih x3 (x2 + (1 : Int32))

theorem s66 {q : ZQ} {d : Nat} (hL : zLay q) {t : Nat} {a1 : Int32} {a2 : Int32} {M : ZI} (ht : zOb 9 t) : zX q d 66 0 [.val (.ref t), .val (.int a1), .val (.int a2), .unset, .unset] [] M (f66_numberAt t a1 a2 M) (zEi M) := by
  unfold f66_numberAt
  refine zX_ic (p := 1) d_66_0 ci_0 rfl (zX_isn3 (p := 2) d_66_1 rfl (zX_iln1 (p := 3) d_66_2 rfl (zX_is4 (p := 5) d_66_3 rfl ?_)))
  refine zX_bind (s66_l5 hL ht zfu (0 : Int32) a1) ?_
  rintro x4 s5
  try dsimp only
  refine zX_iln3 (p := 42) d_66_41 rfl ?_
  exact zX_reti d_66_42 rt_66

theorem s67 {q : ZQ} {d : Nat} (hL : zLay q) {a0 : Int32} {M : ZI} : zX q d 67 0 [.val (.int a0)] [] M (f67_signKind a0) (zEi M) := by
  unfold f67_signKind
  refine zX_iln0 (p := 1) d_67_0 rfl ?_
  refine zX_ite (fun hs1_0 => ?_) (fun hs1_0 => ?_)
  · refine zX_tsh (p := 108) (n := 40) d_67_1 hs1_0 (by decide) (by decide) (by decide) rfl (by decide) ?_
    refine zX_iln0 (p := 109) d_67_108 rfl ?_
    exact zX_reti d_67_109 rt_67
  refine zX_ite (fun hs1_1 => ?_) (fun hs1_1 => ?_)
  · refine zX_tsh (p := 108) (n := 41) d_67_1 hs1_1 (by decide) (by decide) (by decide) rfl (by decide) ?_
    refine zX_iln0 (p := 109) d_67_108 rfl ?_
    exact zX_reti d_67_109 rt_67
  refine zX_ite (fun hs1_2 => ?_) (fun hs1_2 => ?_)
  · refine zX_tsh (p := 108) (n := 42) d_67_1 hs1_2 (by decide) (by decide) (by decide) rfl (by decide) ?_
    refine zX_iln0 (p := 109) d_67_108 rfl ?_
    exact zX_reti d_67_109 rt_67
  refine zX_ite (fun hs1_3 => ?_) (fun hs1_3 => ?_)
  · refine zX_tsh (p := 108) (n := 43) d_67_1 hs1_3 (by decide) (by decide) (by decide) rfl (by decide) ?_
    refine zX_iln0 (p := 109) d_67_108 rfl ?_
    exact zX_reti d_67_109 rt_67
  refine zX_ite (fun hs1_4 => ?_) (fun hs1_4 => ?_)
  · refine zX_tsh (p := 110) (n := 44) d_67_1 hs1_4 (by decide) (by decide) (by decide) rfl (by decide) ?_
    refine zX_bi (p := 112) d_67_110 cb_m3 rfl ?_
    exact zX_reti d_67_112 rt_67
  refine zX_ite (fun hs1_5 => ?_) (fun hs1_5 => ?_)
  · refine zX_tsh (p := 108) (n := 45) d_67_1 hs1_5 (by decide) (by decide) (by decide) rfl (by decide) ?_
    refine zX_iln0 (p := 109) d_67_108 rfl ?_
    exact zX_reti d_67_109 rt_67
  refine zX_ite (fun hs1_6 => ?_) (fun hs1_6 => ?_)
  · refine zX_tsh (p := 110) (n := 46) d_67_1 hs1_6 (by decide) (by decide) (by decide) rfl (by decide) ?_
    refine zX_bi (p := 112) d_67_110 cb_m3 rfl ?_
    exact zX_reti d_67_112 rt_67
  refine zX_ite (fun hs1_7 => ?_) (fun hs1_7 => ?_)
  · refine zX_tsh (p := 108) (n := 47) d_67_1 hs1_7 (by decide) (by decide) (by decide) rfl (by decide) ?_
    refine zX_iln0 (p := 109) d_67_108 rfl ?_
    exact zX_reti d_67_109 rt_67
  refine zX_ite (fun hs1_8 => ?_) (fun hs1_8 => ?_)
  · refine zX_tsh (p := 110) (n := 48) d_67_1 hs1_8 (by decide) (by decide) (by decide) rfl (by decide) ?_
    refine zX_bi (p := 112) d_67_110 cb_m3 rfl ?_
    exact zX_reti d_67_112 rt_67
  refine zX_ite (fun hs1_9 => ?_) (fun hs1_9 => ?_)
  · refine zX_tsh (p := 110) (n := 49) d_67_1 hs1_9 (by decide) (by decide) (by decide) rfl (by decide) ?_
    refine zX_bi (p := 112) d_67_110 cb_m3 rfl ?_
    exact zX_reti d_67_112 rt_67
  refine zX_ite (fun hs1_10 => ?_) (fun hs1_10 => ?_)
  · refine zX_tsh (p := 110) (n := 50) d_67_1 hs1_10 (by decide) (by decide) (by decide) rfl (by decide) ?_
    refine zX_bi (p := 112) d_67_110 cb_m3 rfl ?_
    exact zX_reti d_67_112 rt_67
  refine zX_ite (fun hs1_11 => ?_) (fun hs1_11 => ?_)
  · refine zX_tsh (p := 110) (n := 51) d_67_1 hs1_11 (by decide) (by decide) (by decide) rfl (by decide) ?_
    refine zX_bi (p := 112) d_67_110 cb_m3 rfl ?_
    exact zX_reti d_67_112 rt_67
  refine zX_ite (fun hs1_12 => ?_) (fun hs1_12 => ?_)
  · refine zX_tsh (p := 110) (n := 52) d_67_1 hs1_12 (by decide) (by decide) (by decide) rfl (by decide) ?_
    refine zX_bi (p := 112) d_67_110 cb_m3 rfl ?_
    exact zX_reti d_67_112 rt_67
  refine zX_ite (fun hs1_13 => ?_) (fun hs1_13 => ?_)
  · refine zX_tsh (p := 110) (n := 53) d_67_1 hs1_13 (by decide) (by decide) (by decide) rfl (by decide) ?_
    refine zX_bi (p := 112) d_67_110 cb_m3 rfl ?_
    exact zX_reti d_67_112 rt_67
  refine zX_ite (fun hs1_14 => ?_) (fun hs1_14 => ?_)
  · refine zX_tsh (p := 110) (n := 54) d_67_1 hs1_14 (by decide) (by decide) (by decide) rfl (by decide) ?_
    refine zX_bi (p := 112) d_67_110 cb_m3 rfl ?_
    exact zX_reti d_67_112 rt_67
  refine zX_ite (fun hs1_15 => ?_) (fun hs1_15 => ?_)
  · refine zX_tsh (p := 110) (n := 55) d_67_1 hs1_15 (by decide) (by decide) (by decide) rfl (by decide) ?_
    refine zX_bi (p := 112) d_67_110 cb_m3 rfl ?_
    exact zX_reti d_67_112 rt_67
  refine zX_ite (fun hs1_16 => ?_) (fun hs1_16 => ?_)
  · refine zX_tsh (p := 110) (n := 56) d_67_1 hs1_16 (by decide) (by decide) (by decide) rfl (by decide) ?_
    refine zX_bi (p := 112) d_67_110 cb_m3 rfl ?_
    exact zX_reti d_67_112 rt_67
  refine zX_ite (fun hs1_17 => ?_) (fun hs1_17 => ?_)
  · refine zX_tsh (p := 110) (n := 57) d_67_1 hs1_17 (by decide) (by decide) (by decide) rfl (by decide) ?_
    refine zX_bi (p := 112) d_67_110 cb_m3 rfl ?_
    exact zX_reti d_67_112 rt_67
  refine zX_ite (fun hs1_18 => ?_) (fun hs1_18 => ?_)
  · refine zX_tsh (p := 110) (n := 58) d_67_1 hs1_18 (by decide) (by decide) (by decide) rfl (by decide) ?_
    refine zX_bi (p := 112) d_67_110 cb_m3 rfl ?_
    exact zX_reti d_67_112 rt_67
  refine zX_ite (fun hs1_19 => ?_) (fun hs1_19 => ?_)
  · refine zX_tsh (p := 108) (n := 59) d_67_1 hs1_19 (by decide) (by decide) (by decide) rfl (by decide) ?_
    refine zX_iln0 (p := 109) d_67_108 rfl ?_
    exact zX_reti d_67_109 rt_67
  refine zX_ite (fun hs1_20 => ?_) (fun hs1_20 => ?_)
  · refine zX_tsh (p := 108) (n := 60) d_67_1 hs1_20 (by decide) (by decide) (by decide) rfl (by decide) ?_
    refine zX_iln0 (p := 109) d_67_108 rfl ?_
    exact zX_reti d_67_109 rt_67
  refine zX_ite (fun hs1_21 => ?_) (fun hs1_21 => ?_)
  · refine zX_tsh (p := 108) (n := 61) d_67_1 hs1_21 (by decide) (by decide) (by decide) rfl (by decide) ?_
    refine zX_iln0 (p := 109) d_67_108 rfl ?_
    exact zX_reti d_67_109 rt_67
  refine zX_ite (fun hs1_22 => ?_) (fun hs1_22 => ?_)
  · refine zX_tsh (p := 108) (n := 62) d_67_1 hs1_22 (by decide) (by decide) (by decide) rfl (by decide) ?_
    refine zX_iln0 (p := 109) d_67_108 rfl ?_
    exact zX_reti d_67_109 rt_67
  have hz1 : (a0 : Int32).toInt < 40 ∨ 62 < (a0 : Int32).toInt := by
    have := zne_i (n := 40) (by decide) hs1_0
    have := zne_i (n := 41) (by decide) hs1_1
    have := zne_i (n := 42) (by decide) hs1_2
    have := zne_i (n := 43) (by decide) hs1_3
    have := zne_i (n := 44) (by decide) hs1_4
    have := zne_i (n := 45) (by decide) hs1_5
    have := zne_i (n := 46) (by decide) hs1_6
    have := zne_i (n := 47) (by decide) hs1_7
    have := zne_i (n := 48) (by decide) hs1_8
    have := zne_i (n := 49) (by decide) hs1_9
    have := zne_i (n := 50) (by decide) hs1_10
    have := zne_i (n := 51) (by decide) hs1_11
    have := zne_i (n := 52) (by decide) hs1_12
    have := zne_i (n := 53) (by decide) hs1_13
    have := zne_i (n := 54) (by decide) hs1_14
    have := zne_i (n := 55) (by decide) hs1_15
    have := zne_i (n := 56) (by decide) hs1_16
    have := zne_i (n := 57) (by decide) hs1_17
    have := zne_i (n := 58) (by decide) hs1_18
    have := zne_i (n := 59) (by decide) hs1_19
    have := zne_i (n := 60) (by decide) hs1_20
    have := zne_i (n := 61) (by decide) hs1_21
    have := zne_i (n := 62) (by decide) hs1_22
    omega
  refine zX_tsd (p := 110) d_67_1 hz1 (by decide) ?_
  refine zX_bi (p := 112) d_67_110 cb_m3 rfl ?_
  exact zX_reti d_67_112 rt_67

theorem s54_l81 {q : ZQ} {d : Nat} (hL : zLay q) {t : Nat} {x2 : Int32} {M5 : ZI} {x6 : Int32} (ht : zOb 9 t) : ∀ (n : Nat) (x12 : Int32), zX q (d + 7) 54 81 [.val (.ref t), .val (.int x2), .val (.int x6), .val (.int x12)] [] M5 (f54_l81 t M5 n x12) (zEj q (d + 7) 54 107 (fun (b : Int32) (s : Unit) => [.val (.ref t), .val (.int x2), .val (.int x6), .val (.int b)]) (fun b => []) (fun b => M5)) := by
  intro n
  induction n with
  | zero => intros; exact zX_none
  | succ n ih =>
    intro x12
    rw [f54_l81]
    refine zX_iln3 (p := 82) d_54_81 rfl (zX_aln0 (p := 83) d_54_82 rfl (zX_gi (p := 86) d_54_83 ow_54 gf_9_52 ht rfl ?_))
    refine zX_cge (p1 := 107) (p2 := 89) d_54_86 (by decide) rfl ?_ ?_
    · exact zX_leaf (fun _ _ h => h ())
    · refine zX_aln0 (p := 90) d_54_89 rfl (zX_gr (p := 93) (b := (t + 1)) d_54_90 ow_54 gf_9_9 ht (zr_9_0 hL ht) rfl (zX_iln3 (p := 94) d_54_93 rfl (zX_iag (p := 95) d_54_94 (zsa_9_0 ht) rfl (zX_cS1i (p := 98) d_54_95 ow_54 rs_9_85 kk_65 rfl (s65 hL) rfl rfl rfl rfl (fun v13 => ?_)))))
      refine zX_zeq (p1 := 107) (p2 := 101) d_54_98 (by decide) rfl ?_ ?_
      · exact zX_leaf (fun _ _ h => h ())
      · refine zX_ii3 (p := 104) d_54_101 ci_1 rfl (zX_goto (p := 81) d_54_104 (by decide) ?_)
        exact ih (x12 + (1 : Int32))

theorem s54_l33 {q : ZQ} {d : Nat} (hL : zLay q) {t : Nat} {x2 : Int32} {M5 : ZI} {x6 : Int32} (ht : zOb 9 t) : ∀ (n : Nat) (x18 : Int32), zX q (d + 7) 54 33 [.val (.ref t), .val (.int x2), .val (.int x6), .val (.int x18)] [] M5 (f54_l33 t M5 n x18) (zEj q (d + 7) 54 59 (fun (b : Int32) (s : Unit) => [.val (.ref t), .val (.int x2), .val (.int x6), .val (.int b)]) (fun b => []) (fun b => M5)) := by
  intro n
  induction n with
  | zero => intros; exact zX_none
  | succ n ih =>
    intro x18
    rw [f54_l33]
    refine zX_iln3 (p := 34) d_54_33 rfl (zX_aln0 (p := 35) d_54_34 rfl (zX_gi (p := 38) d_54_35 ow_54 gf_9_52 ht rfl ?_))
    refine zX_cge (p1 := 59) (p2 := 41) d_54_38 (by decide) rfl ?_ ?_
    · exact zX_leaf (fun _ _ h => h ())
    · refine zX_aln0 (p := 42) d_54_41 rfl (zX_gr (p := 45) (b := (t + 1)) d_54_42 ow_54 gf_9_9 ht (zr_9_0 hL ht) rfl (zX_iln3 (p := 46) d_54_45 rfl (zX_iag (p := 47) d_54_46 (zsa_9_0 ht) rfl (zX_cS1i (p := 50) d_54_47 ow_54 rs_9_73 kk_55 rfl (s55 hL) rfl rfl rfl rfl (fun v19 => ?_)))))
      refine zX_zeq (p1 := 59) (p2 := 53) d_54_50 (by decide) rfl ?_ ?_
      · exact zX_leaf (fun _ _ h => h ())
      · refine zX_ii3 (p := 56) d_54_53 ci_1 rfl (zX_goto (p := 33) d_54_56 (by decide) ?_)
        exact ih (x18 + (1 : Int32))

theorem s54_l7 {q : ZQ} {d : Nat} (hL : zLay q) {t : Nat} (ht : zOb 9 t) : ∀ (n : Nat) (x2 : Int32) (M5 : ZI) (s3 : Slot) (s4 : Slot), zX q (d + 7) 54 7 [.val (.ref t), .val (.int x2), s3, s4] [] M5 (f54_l7 t n x2 M5) (zEj q (d + 7) 54 162 (fun (b : ZI) (s : Slot × Slot × Slot) => [.val (.ref t), s.1, s.2.1, s.2.2]) (fun b => []) (fun b => b)) := by
  intro n
  induction n with
  | zero => intros; exact zX_none
  | succ n ih =>
    intro x2 M5 s3 s4
    rw [f54_l7]
    refine zX_iln1 (p := 8) d_54_7 rfl (zX_aln0 (p := 9) d_54_8 rfl (zX_gi (p := 12) d_54_9 ow_54 gf_9_52 ht rfl ?_))
    refine zX_cge (p1 := 162) (p2 := 15) d_54_12 (by decide) rfl ?_ ?_
    · exact zX_leaf (fun _ _ h => h (.val (.int x2), s3, s4))
    · refine zX_aln0 (p := 16) d_54_15 rfl (zX_gr (p := 19) (b := (t + 1)) d_54_16 ow_54 gf_9_9 ht (zr_9_0 hL ht) rfl (zX_iln1 (p := 20) d_54_19 rfl (zX_iag (p := 21) d_54_20 (zsa_9_0 ht) rfl (zX_jsn2 (p := 22) d_54_21 rfl (fun x6 => ?_)))))
      refine zX_iln1 (p := 23) d_54_22 rfl (zX_ic (p := 24) d_54_23 ci_1 rfl (zX_add (p := 25) d_54_24 rfl (zX_jsn3 (p := 26) d_54_25 rfl (fun x7 => ?_))))
      refine zX_iln2 (p := 27) d_54_26 rfl (zX_cS1i (p := 30) d_54_27 ow_54 rs_9_73 kk_55 rfl (s55 hL) rfl rfl rfl rfl (fun v8 => ?_))
      refine zX_zeq (p1 := 74) (p2 := 33) d_54_30 (by decide) rfl ?_ ?_
      · refine zX_iln2 (p := 75) d_54_74 rfl (zX_cS1i (p := 78) d_54_75 ow_54 rs_9_85 kk_65 rfl (s65 hL) rfl rfl rfl rfl (fun v9 => ?_))
        refine zX_zeq (p1 := 135) (p2 := 81) d_54_78 (by decide) rfl ?_ ?_
        · refine zX_iln2 (p := 136) d_54_135 rfl (zX_bi (p := 138) d_54_136 cb_32 rfl ?_)
          refine zX_ceq (p1 := 157) (p2 := 141) d_54_138 (by decide) rfl ?_ ?_
          · refine zX_iln3 (p := 158) d_54_157 rfl (zX_isn1 (p := 159) d_54_158 rfl (zX_goto (p := 7) d_54_159 (by decide) ?_))
            exact ih x7 M5 (.val (.int x6)) (.val (.int x7))
          · refine zX_iln2 (p := 142) d_54_141 rfl (zX_bi (p := 144) d_54_142 cb_10 rfl ?_)
            refine zX_ceq (p1 := 157) (p2 := 147) d_54_144 (by decide) rfl ?_ ?_
            · refine zX_iln3 (p := 158) d_54_157 rfl (zX_isn1 (p := 159) d_54_158 rfl (zX_goto (p := 7) d_54_159 (by decide) ?_))
              exact ih x7 M5 (.val (.int x6)) (.val (.int x7))
            · refine zX_aln0 (p := 148) d_54_147 rfl (zX_iln2 (p := 149) d_54_148 rfl (zX_cS1i (p := 152) d_54_149 ow_54 rs_9_91 kk_67 rfl (s67 hL) rfl rfl rfl rfl (fun v10 => ?_)))
              refine zX_ic (p := 153) d_54_152 ci_0 rfl (zX_iln1 (p := 154) d_54_153 rfl (zX_cV3v (p := 157) ⟨ow_64, by decide, zdr_64⟩ ht d_54_154 ow_54 rs_9_81 kk_64 rfl (s64 hL ht) rfl rfl rfl rfl (fun M11 => ?_)))
              refine zX_iln3 (p := 158) d_54_157 rfl (zX_isn1 (p := 159) d_54_158 rfl (zX_goto (p := 7) d_54_159 (by decide) ?_))
              exact ih x7 M11 (.val (.int x6)) (.val (.int x7))
        · refine zX_bind (s54_l81 hL ht zfu x7) ?_
          rintro x14 _
          try dsimp only
          refine zX_aln0 (p := 108) d_54_107 rfl (zX_iln3 (p := 109) d_54_108 rfl (zX_iln1 (p := 110) d_54_109 rfl (zX_sub (p := 111) d_54_110 rfl (zX_ic (p := 112) d_54_111 ci_4 rfl ?_))))
          refine zX_bind (σ := Unit) (β := Int32) (pj := 122) (lj := fun (b : Int32) (s : Unit) => [.val (.ref t), .val (.int x2), .val (.int x6), .val (.int x14)]) (sj := fun b => [.int b, .ref t]) (mj := fun b => M5) ?_ ?_
          · refine zX_cgt (p1 := 120) (p2 := 115) d_54_112 (by decide) rfl ?_ ?_
            · refine zX_bi (p := 122) d_54_120 cb_m3 rfl ?_
              exact zX_leaf (fun _ _ h => h ())
            · refine zX_bi (p := 117) d_54_115 cb_m2 rfl (zX_goto (p := 122) d_54_117 (by decide) ?_)
              exact zX_leaf (fun _ _ h => h ())
          · rintro v15 _
            try dsimp only
            refine zX_aln0 (p := 123) d_54_122 rfl (zX_iln1 (p := 124) d_54_123 rfl (zX_iln3 (p := 125) d_54_124 rfl (zX_cV2i (p := 128) ⟨ow_66, by decide, zdr_66⟩ ht d_54_125 ow_54 rs_9_88 kk_66 rfl (s66 hL ht) rfl rfl rfl rfl (fun v16 => ?_))))
            refine zX_iln1 (p := 129) d_54_128 rfl (zX_cV3v (p := 132) ⟨ow_64, by decide, zdr_64⟩ ht d_54_129 ow_54 rs_9_81 kk_64 rfl (s64 hL ht) rfl rfl rfl rfl (fun M17 => ?_))
            refine zX_goto (p := 157) d_54_132 (by decide) (zX_iln3 (p := 158) d_54_157 rfl (zX_isn1 (p := 159) d_54_158 rfl (zX_goto (p := 7) d_54_159 (by decide) ?_)))
            exact ih x14 M17 (.val (.int x6)) (.val (.int x14))
      · refine zX_bind (s54_l33 hL ht zfu x7) ?_
        rintro x20 _
        try dsimp only
        refine zX_aln0 (p := 60) d_54_59 rfl (zX_aln0 (p := 61) d_54_60 rfl (zX_iln1 (p := 62) d_54_61 rfl (zX_iln3 (p := 63) d_54_62 rfl (zX_cV2i (p := 66) ⟨ow_56, by decide, zdr_56⟩ ht d_54_63 ow_54 rs_9_77 kk_56 rfl (s56 hL ht) rfl rfl rfl rfl (fun v21 => ?_)))))
        refine zX_ic (p := 67) d_54_66 ci_0 rfl (zX_iln1 (p := 68) d_54_67 rfl (zX_cV3v (p := 71) ⟨ow_64, by decide, zdr_64⟩ ht d_54_68 ow_54 rs_9_81 kk_64 rfl (s64 hL ht) rfl rfl rfl rfl (fun M22 => ?_)))
        refine zX_goto (p := 157) d_54_71 (by decide) (zX_iln3 (p := 158) d_54_157 rfl (zX_isn1 (p := 159) d_54_158 rfl (zX_goto (p := 7) d_54_159 (by decide) ?_)))
        exact ih x20 M22 (.val (.int x6)) (.val (.int x20))

theorem s54 {q : ZQ} {d : Nat} (hL : zLay q) {t : Nat} {M : ZI} (ht : zOb 9 t) : zX q (d + 7) 54 0 [.val (.ref t), .unset, .unset, .unset] [] M (f54_findTokens t M) zEv := by
  unfold f54_findTokens
  refine zX_aln0 (p := 1) d_54_0 rfl (zX_ic (p := 2) d_54_1 ci_0 rfl (zX_pi (p := 5) d_54_2 ow_54 gf_9_70 ht rfl (fun M1 => ?_)))
  refine zX_ic (p := 6) d_54_5 ci_0 rfl (zX_isn1 (p := 7) d_54_6 rfl ?_)
  refine zX_bind (s54_l7 hL ht zfu (0 : Int32) M1 (.unset) (.unset)) ?_
  rintro M23 ⟨s24, s25, s26⟩
  try dsimp only
  refine zX_aln0 (p := 163) d_54_162 rfl (zX_ic (p := 164) d_54_163 ci_m1 rfl (zX_ic (p := 165) d_54_164 ci_0 rfl (zX_aln0 (p := 166) d_54_165 rfl (zX_gi (p := 169) d_54_166 ow_54 gf_9_52 ht rfl (zX_cV3v (p := 172) ⟨ow_64, by decide, zdr_64⟩ ht d_54_169 ow_54 rs_9_81 kk_64 rfl (s64 hL ht) rfl rfl rfl rfl (fun M27 => ?_))))))
  exact zX_retv d_54_172 rt_54

theorem s68 {q : ZQ} {d : Nat} (hL : zLay q) {t : Nat} {M : ZI} (ht : zOb 9 t) : zX q d 68 0 [.val (.ref t)] [] M (f68_forward t M) zEv := by
  unfold f68_forward
  refine zX_aln0 (p := 1) d_68_0 rfl (zX_gi (p := 4) d_68_1 ow_68 gf_9_64 ht rfl (zX_ic (p := 5) d_68_4 ci_1 rfl (zX_add (p := 6) d_68_5 rfl (zX_aln0 (p := 7) d_68_6 rfl (zX_gi (p := 10) d_68_7 ow_68 gf_9_70 ht rfl ?_)))))
  refine zX_cge (p1 := 49) (p2 := 13) d_68_10 (by decide) rfl ?_ ?_
  · exact zX_retv d_68_49 rt_68
  · refine zX_aln0 (p := 14) d_68_13 rfl (zX_dup (p := 15) d_68_14 rfl rfl (zX_gi (p := 18) d_68_15 ow_68 gf_9_64 ht rfl (zX_ic (p := 19) d_68_18 ci_1 rfl (zX_add (p := 20) d_68_19 rfl (zX_pi (p := 23) d_68_20 ow_68 gf_9_64 ht rfl (fun M1 => ?_))))))
    refine zX_aln0 (p := 24) d_68_23 rfl (zX_aln0 (p := 25) d_68_24 rfl (zX_gr (p := 28) (b := (t + 2)) d_68_25 ow_68 gf_9_15 ht (zr_9_2 hL ht) rfl (zX_aln0 (p := 29) d_68_28 rfl (zX_gi (p := 32) d_68_29 ow_68 gf_9_64 ht rfl (zX_iag (p := 33) d_68_32 (zsa_9_2 ht) rfl (zX_pi (p := 36) d_68_33 ow_68 gf_9_107 ht rfl (fun M2 => ?_)))))))
    refine zX_aln0 (p := 37) d_68_36 rfl (zX_aln0 (p := 38) d_68_37 rfl (zX_gr (p := 41) (b := (t + 3)) d_68_38 ow_68 gf_9_18 ht (zr_9_3 hL ht) rfl (zX_aln0 (p := 42) d_68_41 rfl (zX_gi (p := 45) d_68_42 ow_68 gf_9_64 ht rfl (zX_iag (p := 46) d_68_45 (zsa_9_3 ht) rfl (zX_pi (p := 49) d_68_46 ow_68 gf_9_110 ht rfl (fun M3 => ?_)))))))
    exact zX_retv d_68_49 rt_68

theorem s53 {q : ZQ} {d : Nat} (hL : zLay q) {t : Nat} {a1 : Int32} {M : ZI} (ht : zOb 9 t) : zX q (d + 8) 53 0 [.val (.ref t), .val (.int a1)] [] M (f53_begin t a1 M) zEv := by
  unfold f53_begin
  refine zX_aln0 (p := 1) d_53_0 rfl (zX_iln1 (p := 2) d_53_1 rfl (zX_pi (p := 5) d_53_2 ow_53 gf_9_55 ht rfl (fun M1 => ?_)))
  refine zX_aln0 (p := 6) d_53_5 rfl (zX_ic (p := 7) d_53_6 ci_0 rfl (zX_pi (p := 10) d_53_7 ow_53 gf_9_58 ht rfl (fun M2 => ?_)))
  refine zX_aln0 (p := 11) d_53_10 rfl (zX_ic (p := 12) d_53_11 ci_m1 rfl (zX_pi (p := 15) d_53_12 ow_53 gf_9_24 ht rfl (fun M3 => ?_)))
  refine zX_aln0 (p := 16) d_53_15 rfl (zX_cV0v (p := 19) ⟨ow_54, by decide, zdr_54⟩ ht d_53_16 ow_53 rs_9_61 kk_54 rfl (s54 hL ht) rfl rfl rfl rfl (fun M4 => ?_))
  refine zX_aln0 (p := 20) d_53_19 rfl (zX_ic (p := 21) d_53_20 ci_0 rfl (zX_pi (p := 24) d_53_21 ow_53 gf_9_52 ht rfl (fun M5 => ?_)))
  refine zX_aln0 (p := 25) d_53_24 rfl (zX_ic (p := 26) d_53_25 ci_m1 rfl (zX_pi (p := 29) d_53_26 ow_53 gf_9_64 ht rfl (fun M6 => ?_)))
  refine zX_aln0 (p := 30) d_53_29 rfl (zX_cV0v (p := 33) ⟨ow_68, by decide, zdr_68⟩ ht d_53_30 ow_53 rs_9_67 kk_68 rfl (s68 hL ht) rfl rfl rfl rfl (fun M7 => ?_))
  exact zX_retv d_53_33 rt_53

theorem s70 {q : ZQ} {d : Nat} (hL : zLay q) {t : Nat} {a1 : Int32} {M : ZI} (ht : zOb 9 t) : zX q d 70 0 [.val (.ref t), .val (.int a1)] [] M (f70_refuse t a1 M) zEm := by
  unfold f70_refuse
  refine zX_aln0 (p := 1) d_70_0 rfl (zX_iln1 (p := 2) d_70_1 rfl (zX_pi (p := 5) d_70_2 ow_70 gf_9_58 ht rfl (fun M1 => ?_)))
  refine zX_aln0 (p := 6) d_70_5 rfl (zX_aln0 (p := 7) d_70_6 rfl (zX_gr (p := 10) (b := (t + 4)) d_70_7 ow_70 gf_9_21 ht (zr_9_4 hL ht) rfl (zX_aln0 (p := 11) d_70_10 rfl (zX_gi (p := 14) d_70_11 ow_70 gf_9_64 ht rfl (zX_iag (p := 15) d_70_14 (zsa_9_4 ht) rfl (zX_pi (p := 18) d_70_15 ow_70 gf_9_24 ht rfl (fun M2 => ?_)))))))
  refine zX_ic (p := 19) d_70_18 ci_0 rfl ?_
  exact zX_retmb d_70_19 rt_70 (Or.inl rfl)

theorem s74 {q : ZQ} {d : Nat} (hL : zLay q) {t : Nat} {a1 : Int32} {a2 : Int32} {M : ZI} (ht : zOb 5 t) : zX q d 74 0 [.val (.ref t), .val (.int a1), .val (.int a2)] [] M (f74_add t a1 a2 M) zEv := by
  unfold f74_add
  refine zX_aln0 (p := 1) d_74_0 rfl (zX_gi (p := 4) d_74_1 ow_74 gf_5_27 ht rfl (zX_si (p := 7) d_74_4 cs_400 rfl ?_))
  refine zX_cge (p1 := 40) (p2 := 10) d_74_7 (by decide) rfl ?_ ?_
  · exact zX_retv d_74_40 rt_74
  · refine zX_aln0 (p := 11) d_74_10 rfl (zX_gr (p := 14) (b := (t + 1)) d_74_11 ow_74 gf_5_9 ht (zr_5_0 hL ht) rfl (zX_aln0 (p := 15) d_74_14 rfl (zX_gi (p := 18) d_74_15 ow_74 gf_5_27 ht rfl (zX_iln1 (p := 19) d_74_18 rfl (zX_itg (p := 20) d_74_19 (zsa_5_0 ht) rfl (fun M1 => ?_))))))
    refine zX_aln0 (p := 21) d_74_20 rfl (zX_gr (p := 24) (b := (t + 2)) d_74_21 ow_74 gf_5_15 ht (zr_5_1 hL ht) rfl (zX_aln0 (p := 25) d_74_24 rfl (zX_gi (p := 28) d_74_25 ow_74 gf_5_27 ht rfl (zX_iln2 (p := 29) d_74_28 rfl (zX_itg (p := 30) d_74_29 (zsa_5_1 ht) rfl (fun M2 => ?_))))))
    refine zX_aln0 (p := 31) d_74_30 rfl (zX_dup (p := 32) d_74_31 rfl rfl (zX_gi (p := 35) d_74_32 ow_74 gf_5_27 ht rfl (zX_ic (p := 36) d_74_35 ci_1 rfl (zX_add (p := 37) d_74_36 rfl (zX_pi (p := 40) d_74_37 ow_74 gf_5_27 ht rfl (fun M3 => ?_))))))
    exact zX_retv d_74_40 rt_74

theorem s73 {q : ZQ} {d : Nat} (hL : zLay q) {t : Nat} {a1 : Nat} {M : ZI} (ht : zOb 9 t) (ha1 : zOb 5 a1) : zX q (d + 1) 73 0 [.val (.ref t), .val (.ref a1)] [] M (f73_readUnit t a1 M) zEm := by
  unfold f73_readUnit
  refine zX_aln0 (p := 1) d_73_0 rfl (zX_gi (p := 4) d_73_1 ow_73 gf_9_107 ht rfl (zX_si (p := 7) d_73_4 cs_263 rfl ?_))
  refine zX_jn (P := fun g => ∀  (M1 : ZI), zX q (d + 1) 73 66 [.val (.ref t), .val (.ref a1)] [] M1 (g M1) zEm) ?_ (fun j3 hj3 => ?_)
  · intro M1
    try dsimp only
    refine zX_aln0 (p := 67) d_73_66 rfl (zX_cV0v (p := 70) ⟨ow_68, by decide, zdr_68⟩ ht d_73_67 ow_73 rs_9_67 kk_68 rfl (s68 hL ht) rfl rfl rfl rfl (fun M2 => ?_))
    refine zX_ic (p := 71) d_73_70 ci_1 rfl ?_
    exact zX_retmb d_73_71 rt_73 (Or.inr rfl)
  · refine zX_jn (P := fun g => ∀  (M4 : ZI), zX q (d + 1) 73 38 [.val (.ref t), .val (.ref a1)] [] M4 (g M4) zEm) ?_ (fun j8 hj8 => ?_)
    · intro M4
      try dsimp only
      refine zX_aln0 (p := 39) d_73_38 rfl (zX_gi (p := 42) d_73_39 ow_73 gf_9_107 ht rfl (zX_bi (p := 44) d_73_42 cb_m2 rfl ?_))
      refine zX_cne (p1 := 60) (p2 := 47) d_73_44 (by decide) rfl ?_ ?_
      · refine zX_aln0 (p := 61) d_73_60 rfl (zX_ic (p := 62) d_73_61 ci_1 rfl (zX_cV1m (p := 65) ⟨ow_70, by decide, zdr_70⟩ ht d_73_62 ow_73 rs_9_113 kk_70 rfl (s70 hL ht) rfl rfl rfl rfl (fun v5 M6 => ?_)))
        try dsimp only
        exact zX_retmg d_73_65 rt_73
      · refine zX_aln1 (p := 48) d_73_47 rfl (zX_bi (p := 50) d_73_48 cb_m2 rfl (zX_aln0 (p := 51) d_73_50 rfl (zX_gi (p := 54) d_73_51 ow_73 gf_9_110 ht rfl (zX_cV2v (p := 57) ⟨ow_74, by decide, zdr_74⟩ ha1 d_73_54 ow_73 rs_9_153 kk_74 rfl (s74 hL ha1) rfl rfl rfl rfl (fun M7 => ?_)))))
        refine zX_goto (p := 66) d_73_57 (by decide) ?_
        exact hj3 M7
    · refine zX_clt (p1 := 38) (p2 := 10) d_73_7 (by decide) rfl ?_ ?_
      · exact hj8 M
      · refine zX_aln0 (p := 11) d_73_10 rfl (zX_gi (p := 14) d_73_11 ow_73 gf_9_107 ht rfl (zX_si (p := 17) d_73_14 cs_271 rfl ?_))
        refine zX_cgt (p1 := 38) (p2 := 20) d_73_17 (by decide) rfl ?_ ?_
        · exact hj8 M
        · refine zX_aln1 (p := 21) d_73_20 rfl (zX_si (p := 24) d_73_21 cs_300 rfl (zX_aln0 (p := 25) d_73_24 rfl (zX_gi (p := 28) d_73_25 ow_73 gf_9_107 ht rfl (zX_si (p := 31) d_73_28 cs_263 rfl (zX_sub (p := 32) d_73_31 rfl (zX_cV2v (p := 35) ⟨ow_74, by decide, zdr_74⟩ ha1 d_73_32 ow_73 rs_9_153 kk_74 rfl (s74 hL ha1) rfl rfl rfl rfl (fun M9 => ?_)))))))
          refine zX_goto (p := 66) d_73_35 (by decide) ?_
          exact hj3 M9

theorem s75 {q : ZQ} {d : Nat} (hL : zLay q) {t : Nat} {a1 : Int32} {a2 : Int32} {M : ZI} (ht : zOb 9 t) : zX q (d + 1) 75 0 [.val (.ref t), .val (.int a1), .val (.int a2)] [] M (f75_isNumber t a1 a2 M) zEm := by
  unfold f75_isNumber
  refine zX_aln0 (p := 1) d_75_0 rfl (zX_gi (p := 4) d_75_1 ow_75 gf_9_107 ht rfl (zX_bi (p := 6) d_75_4 cb_m2 rfl ?_))
  refine zX_ceq (p1 := 15) (p2 := 9) d_75_6 (by decide) rfl ?_ ?_
  · refine zX_aln0 (p := 16) d_75_15 rfl (zX_gi (p := 19) d_75_16 ow_75 gf_9_110 ht rfl (zX_iln1 (p := 20) d_75_19 rfl (zX_iln2 (p := 21) d_75_20 rfl (zX_cS3i (p := 24) d_75_21 ow_75 rs_9_116 kk_13 rfl (s13 hL) rfl rfl rfl rfl (fun v1 => ?_)))))
    refine zX_zne (p1 := 35) (p2 := 27) d_75_24 (by decide) rfl ?_ ?_
    · refine zX_ic (p := 36) d_75_35 ci_1 rfl (zX_goto (p := 40) d_75_36 (by decide) ?_)
      exact zX_retmb d_75_40 rt_75 (Or.inr rfl)
    · refine zX_aln0 (p := 28) d_75_27 rfl (zX_ic (p := 29) d_75_28 ci_2 rfl (zX_cV1m (p := 32) ⟨ow_70, by decide, zdr_70⟩ ht d_75_29 ow_75 rs_9_113 kk_70 rfl (s70 hL ht) rfl rfl rfl rfl (fun v2 M3 => ?_)))
      try dsimp only
      refine zX_zeq (p1 := 39) (p2 := 35) d_75_32 (by decide) rfl ?_ ?_
      · refine zX_ic (p := 40) d_75_39 ci_0 rfl ?_
        exact zX_retmb d_75_40 rt_75 (Or.inl rfl)
      · refine zX_ic (p := 36) d_75_35 ci_1 rfl (zX_goto (p := 40) d_75_36 (by decide) ?_)
        exact zX_retmb d_75_40 rt_75 (Or.inr rfl)
  · refine zX_aln0 (p := 10) d_75_9 rfl (zX_ic (p := 11) d_75_10 ci_1 rfl (zX_cV1m (p := 14) ⟨ow_70, by decide, zdr_70⟩ ht d_75_11 ow_75 rs_9_113 kk_70 rfl (s70 hL ht) rfl rfl rfl rfl (fun v4 M5 => ?_)))
    try dsimp only
    exact zX_retmg d_75_14 rt_75

theorem s72_l12 {q : ZQ} {d : Nat} (hL : zLay q) {t : Nat} {a1 : Nat} (ht : zOb 9 t) (ha1 : zOb 5 a1) : ∀ (n : Nat) (x3 : Int32) (M5 : ZI) (s4 : Slot), zX q (d + 2) 72 12 [.val (.ref t), .val (.ref a1), .val (.int x3), s4] [] M5 (f72_l12 t a1 n x3 M5) zEm := by
  intro n
  induction n with
  | zero => intros; exact zX_none
  | succ n ih =>
    intro x3 M5 s4
    rw [f72_l12]
    refine zX_iln2 (p := 13) d_72_12 rfl (zX_si (p := 16) d_72_13 cs_400 rfl ?_)
    refine zX_cge (p1 := 105) (p2 := 19) d_72_16 (by decide) rfl ?_ ?_
    · refine zX_ic (p := 106) d_72_105 ci_1 rfl ?_
      exact zX_retmb d_72_106 rt_72 (Or.inr rfl)
    · refine zX_aln0 (p := 20) d_72_19 rfl (zX_gi (p := 23) d_72_20 ow_72 gf_9_107 ht rfl (zX_bi (p := 25) d_72_23 cb_42 rfl ?_))
      refine zX_jn (P := fun g => ∀ (_ : Unit), zX q (d + 2) 72 37 [.val (.ref t), .val (.ref a1), .val (.int x3), s4] [] M5 (g ()) zEm) ?_ (fun j15 hj15 => ?_)
      · intro _
        try dsimp only
        refine zX_aln0 (p := 38) d_72_37 rfl (zX_gi (p := 41) d_72_38 ow_72 gf_9_107 ht rfl (zX_jsn3 (p := 42) d_72_41 rfl (fun x6 => ?_)))
        refine zX_aln0 (p := 43) d_72_42 rfl (zX_cV0v (p := 46) ⟨ow_68, by decide, zdr_68⟩ ht d_72_43 ow_72 rs_9_67 kk_68 rfl (s68 hL ht) rfl rfl rfl rfl (fun M7 => ?_))
        refine zX_iln3 (p := 47) d_72_46 rfl (zX_bi (p := 49) d_72_47 cb_42 rfl ?_)
        refine zX_cne (p1 := 72) (p2 := 52) d_72_49 (by decide) rfl ?_ ?_
        · refine zX_aln0 (p := 73) d_72_72 rfl (zX_ic (p := 74) d_72_73 ci_1 rfl (zX_si (p := 77) d_72_74 cs_9999 rfl (zX_cV2m (p := 80) ⟨ow_75, by decide, zdr_75⟩ ht d_72_77 ow_72 rs_9_159 kk_75 rfl (s75 hL ht) rfl rfl rfl rfl (fun v8 M9 => ?_))))
          try dsimp only
          refine zX_zne (p1 := 85) (p2 := 83) d_72_80 (by decide) rfl ?_ ?_
          · refine zX_aln1 (p := 86) d_72_85 rfl (zX_bi (p := 88) d_72_86 cb_47 rfl (zX_aln0 (p := 89) d_72_88 rfl (zX_gi (p := 92) d_72_89 ow_72 gf_9_110 ht rfl (zX_cV2v (p := 95) ⟨ow_74, by decide, zdr_74⟩ ha1 d_72_92 ow_72 rs_9_153 kk_74 rfl (s74 hL ha1) rfl rfl rfl rfl (fun M10 => ?_)))))
            refine zX_aln0 (p := 96) d_72_95 rfl (zX_cV0v (p := 99) ⟨ow_68, by decide, zdr_68⟩ ht d_72_96 ow_72 rs_9_67 kk_68 rfl (s68 hL ht) rfl rfl rfl rfl (fun M11 => ?_))
            refine zX_ii2 (p := 102) d_72_99 ci_1 rfl (zX_goto (p := 12) d_72_102 (by decide) ?_)
            exact ih (x3 + (1 : Int32)) M11 (.val (.int x6))
          · refine zX_ic (p := 84) d_72_83 ci_0 rfl ?_
            exact zX_retmb d_72_84 rt_72 (Or.inl rfl)
        · refine zX_aln0 (p := 53) d_72_52 rfl (zX_aln1 (p := 54) d_72_53 rfl (zX_cV1m (p := 57) ⟨ow_73, by decide, zdr_73⟩ ht d_72_54 ow_72 rs_9_166 kk_73 rfl (s73 hL ht ha1) rfl rfl rfl rfl (fun v12 M13 => ?_)))
          try dsimp only
          refine zX_zne (p1 := 62) (p2 := 60) d_72_57 (by decide) rfl ?_ ?_
          · refine zX_aln1 (p := 63) d_72_62 rfl (zX_bi (p := 65) d_72_63 cb_42 rfl (zX_ic (p := 66) d_72_65 ci_0 rfl (zX_cV2v (p := 69) ⟨ow_74, by decide, zdr_74⟩ ha1 d_72_66 ow_72 rs_9_153 kk_74 rfl (s74 hL ha1) rfl rfl rfl rfl (fun M14 => ?_))))
            refine zX_goto (p := 99) d_72_69 (by decide) (zX_ii2 (p := 102) d_72_99 ci_1 rfl (zX_goto (p := 12) d_72_102 (by decide) ?_))
            exact ih (x3 + (1 : Int32)) M14 (.val (.int x6))
          · refine zX_ic (p := 61) d_72_60 ci_0 rfl ?_
            exact zX_retmb d_72_61 rt_72 (Or.inl rfl)
      · refine zX_ceq (p1 := 37) (p2 := 28) d_72_25 (by decide) rfl ?_ ?_
        · exact hj15 ()
        · refine zX_aln0 (p := 29) d_72_28 rfl (zX_gi (p := 32) d_72_29 ow_72 gf_9_107 ht rfl (zX_bi (p := 34) d_72_32 cb_47 rfl ?_))
          refine zX_cne (p1 := 105) (p2 := 37) d_72_34 (by decide) rfl ?_ ?_
          · refine zX_ic (p := 106) d_72_105 ci_1 rfl ?_
            exact zX_retmb d_72_106 rt_72 (Or.inr rfl)
          · exact hj15 ()

theorem s72 {q : ZQ} {d : Nat} (hL : zLay q) {t : Nat} {a1 : Nat} {M : ZI} (ht : zOb 9 t) (ha1 : zOb 5 a1) : zX q (d + 2) 72 0 [.val (.ref t), .val (.ref a1), .unset, .unset] [] M (f72_readTerm t a1 M) zEm := by
  unfold f72_readTerm
  refine zX_aln0 (p := 1) d_72_0 rfl (zX_aln1 (p := 2) d_72_1 rfl (zX_cV1m (p := 5) ⟨ow_73, by decide, zdr_73⟩ ht d_72_2 ow_72 rs_9_166 kk_73 rfl (s73 hL ht ha1) rfl rfl rfl rfl (fun v1 M2 => ?_)))
  try dsimp only
  refine zX_zne (p1 := 10) (p2 := 8) d_72_5 (by decide) rfl ?_ ?_
  · refine zX_ic (p := 11) d_72_10 ci_0 rfl (zX_isn2 (p := 12) d_72_11 rfl ?_)
    exact s72_l12 hL ht ha1 zfu (0 : Int32) M2 (.unset)
  · refine zX_ic (p := 9) d_72_8 ci_0 rfl ?_
    exact zX_retmb d_72_9 rt_72 (Or.inl rfl)

theorem s71_l4 {q : ZQ} {d : Nat} (hL : zLay q) {t : Nat} {a1 : Nat} (ht : zOb 9 t) (ha1 : zOb 5 a1) : ∀ (n : Nat) (x1 : Int32) (x2 : Int32) (M3 : ZI), zX q (d + 3) 71 4 [.val (.ref t), .val (.ref a1), .val (.int x1), .val (.int x2)] [] M3 (f71_l4 t a1 n x1 x2 M3) zEm := by
  intro n
  induction n with
  | zero => intros; exact zX_none
  | succ n ih =>
    intro x1 x2 M3
    rw [f71_l4]
    refine zX_iln3 (p := 5) d_71_4 rfl (zX_si (p := 8) d_71_5 cs_400 rfl ?_)
    refine zX_cge (p1 := 66) (p2 := 11) d_71_8 (by decide) rfl ?_ ?_
    · refine zX_aln0 (p := 67) d_71_66 rfl (zX_ic (p := 68) d_71_67 ci_1 rfl (zX_cV1m (p := 71) ⟨ow_70, by decide, zdr_70⟩ ht d_71_68 ow_71 rs_9_113 kk_70 rfl (s70 hL ht) rfl rfl rfl rfl (fun v4 M5 => ?_)))
      try dsimp only
      exact zX_retmg d_71_71 rt_71
    · refine zX_aln0 (p := 12) d_71_11 rfl (zX_aln1 (p := 13) d_71_12 rfl (zX_cV1m (p := 16) ⟨ow_72, by decide, zdr_72⟩ ht d_71_13 ow_71 rs_9_163 kk_72 rfl (s72 hL ht ha1) rfl rfl rfl rfl (fun v6 M7 => ?_)))
      try dsimp only
      refine zX_zne (p1 := 21) (p2 := 19) d_71_16 (by decide) rfl ?_ ?_
      · refine zX_iln2 (p := 22) d_71_21 rfl ?_
        refine zX_bind (σ := Unit) (β := ZI) (pj := 31) (lj := fun (b : ZI) (s : Unit) => [.val (.ref t), .val (.ref a1), .val (.int x1), .val (.int x2)]) (sj := fun b => []) (mj := fun b => b) ?_ ?_
        · refine zX_zeq (p1 := 31) (p2 := 25) d_71_22 (by decide) rfl ?_ ?_
          · exact zX_leaf (fun _ _ h => h ())
          · refine zX_aln1 (p := 26) d_71_25 rfl (zX_iln2 (p := 27) d_71_26 rfl (zX_ic (p := 28) d_71_27 ci_0 rfl (zX_cV2v (p := 31) ⟨ow_74, by decide, zdr_74⟩ ha1 d_71_28 ow_71 rs_9_153 kk_74 rfl (s74 hL ha1) rfl rfl rfl rfl (fun M8 => ?_))))
            exact zX_leaf (fun _ _ h => h ())
        · rintro M9 _
          try dsimp only
          refine zX_aln0 (p := 32) d_71_31 rfl (zX_gi (p := 35) d_71_32 ow_71 gf_9_107 ht rfl (zX_bi (p := 37) d_71_35 cb_43 rfl ?_))
          refine zX_jn (P := fun g => ∀ (_ : Unit), zX q (d + 3) 71 51 [.val (.ref t), .val (.ref a1), .val (.int x1), .val (.int x2)] [] M9 (g ()) zEm) ?_ (fun j12 hj12 => ?_)
          · intro _
            try dsimp only
            refine zX_aln0 (p := 52) d_71_51 rfl (zX_gi (p := 55) d_71_52 ow_71 gf_9_107 ht rfl (zX_jsn2 (p := 56) d_71_55 rfl (fun x10 => ?_)))
            refine zX_aln0 (p := 57) d_71_56 rfl (zX_cV0v (p := 60) ⟨ow_68, by decide, zdr_68⟩ ht d_71_57 ow_71 rs_9_67 kk_68 rfl (s68 hL ht) rfl rfl rfl rfl (fun M11 => ?_))
            refine zX_ii3 (p := 63) d_71_60 ci_1 rfl (zX_goto (p := 4) d_71_63 (by decide) ?_)
            exact ih x10 (x2 + (1 : Int32)) M11
          · refine zX_ceq (p1 := 51) (p2 := 40) d_71_37 (by decide) rfl ?_ ?_
            · exact hj12 ()
            · refine zX_aln0 (p := 41) d_71_40 rfl (zX_gi (p := 44) d_71_41 ow_71 gf_9_107 ht rfl (zX_bi (p := 46) d_71_44 cb_45 rfl ?_))
              refine zX_ceq (p1 := 51) (p2 := 49) d_71_46 (by decide) rfl ?_ ?_
              · exact hj12 ()
              · refine zX_ic (p := 50) d_71_49 ci_1 rfl ?_
                exact zX_retmb d_71_50 rt_71 (Or.inr rfl)
      · refine zX_ic (p := 20) d_71_19 ci_0 rfl ?_
        exact zX_retmb d_71_20 rt_71 (Or.inl rfl)

theorem s71 {q : ZQ} {d : Nat} (hL : zLay q) {t : Nat} {a1 : Nat} {M : ZI} (ht : zOb 9 t) (ha1 : zOb 5 a1) : zX q (d + 3) 71 0 [.val (.ref t), .val (.ref a1), .unset, .unset] [] M (f71_readSum t a1 M) zEm := by
  unfold f71_readSum
  refine zX_ic (p := 1) d_71_0 ci_0 rfl (zX_isn2 (p := 2) d_71_1 rfl (zX_ic (p := 3) d_71_2 ci_0 rfl (zX_isn3 (p := 4) d_71_3 rfl ?_)))
  exact s71_l4 hL ht ha1 zfu (0 : Int32) (0 : Int32) M

theorem s78 {q : ZQ} {d : Nat} (hL : zLay q) {t : Nat} {a1 : Int32} {M : ZI} (ht : zOb 9 t) : zX q (d + 1) 78 0 [.val (.ref t), .val (.int a1)] [] M (f78_skip t a1 M) zEm := by
  unfold f78_skip
  refine zX_aln0 (p := 1) d_78_0 rfl (zX_gi (p := 4) d_78_1 ow_78 gf_9_107 ht rfl (zX_iln1 (p := 5) d_78_4 rfl ?_))
  refine zX_ceq (p1 := 14) (p2 := 8) d_78_5 (by decide) rfl ?_ ?_
  · refine zX_aln0 (p := 15) d_78_14 rfl (zX_cV0v (p := 18) ⟨ow_68, by decide, zdr_68⟩ ht d_78_15 ow_78 rs_9_67 kk_68 rfl (s68 hL ht) rfl rfl rfl rfl (fun M1 => ?_))
    refine zX_ic (p := 19) d_78_18 ci_1 rfl ?_
    exact zX_retmb d_78_19 rt_78 (Or.inr rfl)
  · refine zX_aln0 (p := 9) d_78_8 rfl (zX_ic (p := 10) d_78_9 ci_1 rfl (zX_cV1m (p := 13) ⟨ow_70, by decide, zdr_70⟩ ht d_78_10 ow_78 rs_9_113 kk_70 rfl (s70 hL ht) rfl rfl rfl rfl (fun v2 M3 => ?_)))
    try dsimp only
    exact zX_retmg d_78_13 rt_78

theorem s79 {q : ZQ} {d : Nat} (hL : zLay q) {t : Nat} {a1 : Nat} {M : ZI} (ht : zOb 9 t) (ha1 : zOb 5 a1) : zX q (d + 2) 79 0 [.val (.ref t), .val (.ref a1), .unset] [] M (f79_readPart t a1 M) zEm := by
  unfold f79_readPart
  refine zX_aln0 (p := 1) d_79_0 rfl (zX_gi (p := 4) d_79_1 ow_79 gf_9_107 ht rfl (zX_si (p := 7) d_79_4 cs_279 rfl ?_))
  refine zX_bind (σ := Unit) (β := Int32) (pj := 15) (lj := fun (b : Int32) (s : Unit) => [.val (.ref t), .val (.ref a1), .unset]) (sj := fun b => [.int b]) (mj := fun b => M) ?_ ?_
  · refine zX_cne (p1 := 14) (p2 := 10) d_79_7 (by decide) rfl ?_ ?_
    · refine zX_ic (p := 15) d_79_14 ci_0 rfl ?_
      exact zX_leaf (fun _ _ h => h ())
    · refine zX_ic (p := 11) d_79_10 ci_1 rfl (zX_goto (p := 15) d_79_11 (by decide) ?_)
      exact zX_leaf (fun _ _ h => h ())
  · rintro v1 _
    try dsimp only
    refine zX_isn2 (p := 16) d_79_15 rfl (zX_iln2 (p := 17) d_79_16 rfl ?_)
    refine zX_bind (σ := Unit) (β := ZI) (pj := 24) (lj := fun (b : ZI) (s : Unit) => [.val (.ref t), .val (.ref a1), .val (.int v1)]) (sj := fun b => []) (mj := fun b => b) ?_ ?_
    · refine zX_zeq (p1 := 24) (p2 := 20) d_79_17 (by decide) rfl ?_ ?_
      · exact zX_leaf (fun _ _ h => h ())
      · refine zX_aln0 (p := 21) d_79_20 rfl (zX_cV0v (p := 24) ⟨ow_68, by decide, zdr_68⟩ ht d_79_21 ow_79 rs_9_67 kk_68 rfl (s68 hL ht) rfl rfl rfl rfl (fun M2 => ?_))
        exact zX_leaf (fun _ _ h => h ())
    · rintro M3 _
      try dsimp only
      refine zX_aln0 (p := 25) d_79_24 rfl (zX_iln2 (p := 26) d_79_25 rfl ?_)
      refine zX_bind (σ := Unit) (β := Int32) (pj := 34) (lj := fun (b : Int32) (s : Unit) => [.val (.ref t), .val (.ref a1), .val (.int v1)]) (sj := fun b => [.int b, .ref t]) (mj := fun b => M3) ?_ ?_
      · refine zX_zeq (p1 := 33) (p2 := 29) d_79_26 (by decide) rfl ?_ ?_
        · refine zX_ic (p := 34) d_79_33 ci_0 rfl ?_
          exact zX_leaf (fun _ _ h => h ())
        · refine zX_ic (p := 30) d_79_29 ci_1 rfl (zX_goto (p := 34) d_79_30 (by decide) ?_)
          exact zX_leaf (fun _ _ h => h ())
      · rintro v4 _
        try dsimp only
        refine zX_iln2 (p := 35) d_79_34 rfl ?_
        refine zX_bind (σ := Unit) (β := Int32) (pj := 49) (lj := fun (b : Int32) (s : Unit) => [.val (.ref t), .val (.ref a1), .val (.int v1)]) (sj := fun b => [.int b, .int v4, .ref t]) (mj := fun b => M3) ?_ ?_
        · refine zX_zeq (p1 := 43) (p2 := 38) d_79_35 (by decide) rfl ?_ ?_
          · refine zX_aln0 (p := 44) d_79_43 rfl (zX_gi (p := 47) d_79_44 ow_79 gf_9_55 ht rfl (zX_ic (p := 48) d_79_47 ci_1 rfl (zX_sub (p := 49) d_79_48 rfl ?_)))
            exact zX_leaf (fun _ _ h => h ())
          · refine zX_bi (p := 40) d_79_38 cb_10 rfl (zX_goto (p := 49) d_79_40 (by decide) ?_)
            exact zX_leaf (fun _ _ h => h ())
        · rintro v5 _
          try dsimp only
          refine zX_cV2m (p := 52) ⟨ow_75, by decide, zdr_75⟩ ht d_79_49 ow_79 rs_9_159 kk_75 rfl (s75 hL ht) rfl rfl rfl rfl (fun v6 M7 => ?_)
          try dsimp only
          refine zX_zne (p1 := 57) (p2 := 55) d_79_52 (by decide) rfl ?_ ?_
          · refine zX_aln1 (p := 58) d_79_57 rfl (zX_iln2 (p := 59) d_79_58 rfl ?_)
            refine zX_bind (σ := Unit) (β := Int32) (pj := 71) (lj := fun (b : Int32) (s : Unit) => [.val (.ref t), .val (.ref a1), .val (.int v1)]) (sj := fun b => [.int b, .ref a1]) (mj := fun b => M7) ?_ ?_
            · refine zX_zeq (p1 := 68) (p2 := 62) d_79_59 (by decide) rfl ?_ ?_
              · refine zX_si (p := 71) d_79_68 cs_301 rfl ?_
                exact zX_leaf (fun _ _ h => h ())
              · refine zX_si (p := 65) d_79_62 cs_279 rfl (zX_goto (p := 71) d_79_65 (by decide) ?_)
                exact zX_leaf (fun _ _ h => h ())
            · rintro v8 _
              try dsimp only
              refine zX_aln0 (p := 72) d_79_71 rfl (zX_gi (p := 75) d_79_72 ow_79 gf_9_110 ht rfl (zX_cV2v (p := 78) ⟨ow_74, by decide, zdr_74⟩ ha1 d_79_75 ow_79 rs_9_153 kk_74 rfl (s74 hL ha1) rfl rfl rfl rfl (fun M9 => ?_)))
              refine zX_aln0 (p := 79) d_79_78 rfl (zX_cV0v (p := 82) ⟨ow_68, by decide, zdr_68⟩ ht d_79_79 ow_79 rs_9_67 kk_68 rfl (s68 hL ht) rfl rfl rfl rfl (fun M10 => ?_))
              refine zX_aln0 (p := 83) d_79_82 rfl (zX_gr (p := 86) (b := (t + 23)) d_79_83 ow_79 gf_9_48 ht (zr_9_15 hL ht) rfl (zX_dup (p := 87) d_79_86 rfl rfl (zX_gi (p := 90) d_79_87 ow_79 gf_9_146 (zso_9_15 ht) rfl (zX_ic (p := 91) d_79_90 ci_1 rfl (zX_add (p := 92) d_79_91 rfl (zX_pi (p := 95) d_79_92 ow_79 gf_9_146 (zso_9_15 ht) rfl (fun M11 => ?_)))))))
              refine zX_ic (p := 96) d_79_95 ci_1 rfl ?_
              exact zX_retmb d_79_96 rt_79 (Or.inr rfl)
          · refine zX_ic (p := 56) d_79_55 ci_0 rfl ?_
            exact zX_retmb d_79_56 rt_79 (Or.inl rfl)

theorem s77_b {q : ZQ} {d : Nat} (hL : zLay q) {g76 : Nat → Nat → Int32 → Int32 → ZI → Option (Int32 × ZI)} {g77 : Nat → Nat → Int32 → Int32 → ZI → Option (Int32 × ZI)} (h76 : ∀ {t : Nat} {a1 : Nat} {a2 : Int32} {a3 : Int32} {M : ZI} (ht : zOb 9 t) (ha1 : zOb 5 a1), zX q (d + 4) 76 0 [.val (.ref t), .val (.ref a1), .val (.int a2), .val (.int a3), .unset, .unset, .unset] [] M (g76 t a1 a2 a3 M) zEm) (h77 : ∀ {t : Nat} {a1 : Nat} {a2 : Int32} {a3 : Int32} {M : ZI} (ht : zOb 9 t) (ha1 : zOb 5 a1), zX q (d + 4) 77 0 [.val (.ref t), .val (.ref a1), .val (.int a2), .val (.int a3), .unset] [] M (g77 t a1 a2 a3 M) zEm) {t : Nat} {a1 : Nat} {a2 : Int32} {a3 : Int32} {M : ZI} (ht : zOb 9 t) (ha1 : zOb 5 a1) : zX q (d + 5) 77 0 [.val (.ref t), .val (.ref a1), .val (.int a2), .val (.int a3), .unset] [] M (f77_readOne_b g76 g77 t a1 a2 a3 M) zEm := by
  unfold f77_readOne_b
  refine zX_aln0 (p := 1) d_77_0 rfl (zX_gi (p := 4) d_77_1 ow_77 gf_9_107 ht rfl (zX_bi (p := 6) d_77_4 cb_40 rfl ?_))
  refine zX_jn (P := fun g => ∀  (M1 : ZI) (s2 : Slot), zX q (d + 5) 77 23 [.val (.ref t), .val (.ref a1), .val (.int a2), .val (.int a3), s2] [] M1 (g M1) zEm) ?_ (fun j14 hj14 => ?_)
  · intro M1 s2
    try dsimp only
    refine zX_iln3 (p := 24) d_77_23 rfl (zX_bi (p := 26) d_77_24 cb_8 rfl ?_)
    refine zX_clt (p1 := 35) (p2 := 29) d_77_26 (by decide) rfl ?_ ?_
    · refine zX_aln0 (p := 36) d_77_35 rfl (zX_gi (p := 39) d_77_36 ow_77 gf_9_107 ht rfl (zX_si (p := 42) d_77_39 cs_262 rfl ?_))
      refine zX_bind (σ := Unit) (β := Int32) (pj := 50) (lj := fun (b : Int32) (s : Unit) => [.val (.ref t), .val (.ref a1), .val (.int a2), .val (.int a3), s2]) (sj := fun b => [.int b]) (mj := fun b => M1) ?_ ?_
      · refine zX_cne (p1 := 49) (p2 := 45) d_77_42 (by decide) rfl ?_ ?_
        · refine zX_ic (p := 50) d_77_49 ci_0 rfl ?_
          exact zX_leaf (fun _ _ h => h ())
        · refine zX_ic (p := 46) d_77_45 ci_1 rfl (zX_goto (p := 50) d_77_46 (by decide) ?_)
          exact zX_leaf (fun _ _ h => h ())
      · rintro v3 _
        try dsimp only
        refine zX_is4 (p := 52) d_77_50 rfl (zX_aln0 (p := 53) d_77_52 rfl (zX_cV0v (p := 56) ⟨ow_68, by decide, zdr_68⟩ ht d_77_53 ow_77 rs_9_67 kk_68 rfl (s68 hL ht) rfl rfl rfl rfl (fun M4 => ?_)))
        refine zX_il4 (p := 58) d_77_56 rfl ?_
        refine zX_zne (p1 := 88) (p2 := 61) d_77_58 (by decide) rfl ?_ ?_
        · refine zX_aln0 (p := 89) d_77_88 rfl (zX_aln1 (p := 90) d_77_89 rfl (zX_iln2 (p := 91) d_77_90 rfl (zX_iln3 (p := 92) d_77_91 rfl (zX_ic (p := 93) d_77_92 ci_1 rfl (zX_add (p := 94) d_77_93 rfl (zX_cV3m (p := 97) ⟨ow_77, by decide, zdr_77⟩ ht d_77_94 ow_77 rs_9_150 kk_77 rfl (h77 ht ha1) rfl rfl rfl rfl (fun v5 M6 => ?_)))))))
          try dsimp only
          refine zX_zne (p1 := 102) (p2 := 100) d_77_97 (by decide) rfl ?_ ?_
          · refine zX_aln1 (p := 103) d_77_102 rfl (zX_si (p := 106) d_77_103 cs_262 rfl (zX_ic (p := 107) d_77_106 ci_0 rfl (zX_cV2v (p := 110) ⟨ow_74, by decide, zdr_74⟩ ha1 d_77_107 ow_77 rs_9_153 kk_74 rfl (s74 hL ha1) rfl rfl rfl rfl (fun M7 => ?_))))
            refine zX_ic (p := 111) d_77_110 ci_1 rfl ?_
            exact zX_retmb d_77_111 rt_77 (Or.inr rfl)
          · refine zX_ic (p := 101) d_77_100 ci_0 rfl ?_
            exact zX_retmb d_77_101 rt_77 (Or.inl rfl)
        · refine zX_aln0 (p := 62) d_77_61 rfl (zX_aln1 (p := 63) d_77_62 rfl (zX_iln2 (p := 64) d_77_63 rfl (zX_iln3 (p := 65) d_77_64 rfl (zX_ic (p := 66) d_77_65 ci_1 rfl (zX_add (p := 67) d_77_66 rfl (zX_cV3m (p := 70) ⟨ow_76, by decide, zdr_76⟩ ht d_77_67 ow_77 rs_9_136 kk_76 rfl (h76 ht ha1) rfl rfl rfl rfl (fun v8 M9 => ?_)))))))
          try dsimp only
          refine zX_zeq (p1 := 86) (p2 := 73) d_77_70 (by decide) rfl ?_ ?_
          · refine zX_ic (p := 87) d_77_86 ci_0 rfl ?_
            exact zX_retmb d_77_87 rt_77 (Or.inl rfl)
          · refine zX_aln0 (p := 74) d_77_73 rfl (zX_bi (p := 76) d_77_74 cb_41 rfl (zX_cV1m (p := 79) ⟨ow_78, by decide, zdr_78⟩ ht d_77_76 ow_77 rs_9_140 kk_78 rfl (s78 hL ht) rfl rfl rfl rfl (fun v10 M11 => ?_)))
            try dsimp only
            refine zX_zeq (p1 := 86) (p2 := 82) d_77_79 (by decide) rfl ?_ ?_
            · refine zX_ic (p := 87) d_77_86 ci_0 rfl ?_
              exact zX_retmb d_77_87 rt_77 (Or.inl rfl)
            · refine zX_ic (p := 83) d_77_82 ci_1 rfl (zX_goto (p := 87) d_77_83 (by decide) ?_)
              exact zX_retmb d_77_87 rt_77 (Or.inr rfl)
    · refine zX_aln0 (p := 30) d_77_29 rfl (zX_ic (p := 31) d_77_30 ci_3 rfl (zX_cV1m (p := 34) ⟨ow_70, by decide, zdr_70⟩ ht d_77_31 ow_77 rs_9_113 kk_70 rfl (s70 hL ht) rfl rfl rfl rfl (fun v12 M13 => ?_)))
      try dsimp only
      exact zX_retmg d_77_34 rt_77
  · refine zX_ceq (p1 := 23) (p2 := 9) d_77_6 (by decide) rfl ?_ ?_
    · exact hj14 M (.unset)
    · refine zX_aln0 (p := 10) d_77_9 rfl (zX_gi (p := 13) d_77_10 ow_77 gf_9_107 ht rfl (zX_si (p := 16) d_77_13 cs_262 rfl ?_))
      refine zX_jn (P := fun g => ∀ (_ : Unit), zX q (d + 5) 77 112 [.val (.ref t), .val (.ref a1), .val (.int a2), .val (.int a3), .unset] [] M (g ()) zEm) ?_ (fun j28 hj28 => ?_)
      · intro _
        try dsimp only
        refine zX_iln2 (p := 113) d_77_112 rfl ?_
        refine zX_zeq (p1 := 122) (p2 := 116) d_77_113 (by decide) rfl ?_ ?_
        · refine zX_aln0 (p := 123) d_77_122 rfl (zX_aln1 (p := 124) d_77_123 rfl (zX_cV1m (p := 127) ⟨ow_71, by decide, zdr_71⟩ ht d_77_124 ow_77 rs_9_132 kk_71 rfl (s71 hL ht ha1) rfl rfl rfl rfl (fun v15 M16 => ?_)))
          try dsimp only
          refine zX_zne (p1 := 132) (p2 := 130) d_77_127 (by decide) rfl ?_ ?_
          · refine zX_aln0 (p := 133) d_77_132 rfl (zX_gi (p := 136) d_77_133 ow_77 gf_9_107 ht rfl (zX_js4 (p := 138) d_77_136 rfl (fun x17 => ?_)))
            refine zX_il4 (p := 140) d_77_138 rfl (zX_bi (p := 142) d_77_140 cb_60 rfl ?_)
            refine zX_jn (P := fun g => ∀  (M18 : ZI), zX q (d + 5) 77 165 [.val (.ref t), .val (.ref a1), .val (.int a2), .val (.int a3), .val (.int x17)] [] M18 (g M18) zEm) ?_ (fun j23 hj23 => ?_)
            · intro M18
              try dsimp only
              refine zX_aln0 (p := 166) d_77_165 rfl (zX_cV0v (p := 169) ⟨ow_68, by decide, zdr_68⟩ ht d_77_166 ow_77 rs_9_67 kk_68 rfl (s68 hL ht) rfl rfl rfl rfl (fun M19 => ?_))
              refine zX_aln0 (p := 170) d_77_169 rfl (zX_aln1 (p := 171) d_77_170 rfl (zX_cV1m (p := 174) ⟨ow_71, by decide, zdr_71⟩ ht d_77_171 ow_77 rs_9_132 kk_71 rfl (s71 hL ht ha1) rfl rfl rfl rfl (fun v20 M21 => ?_)))
              try dsimp only
              refine zX_zne (p1 := 179) (p2 := 177) d_77_174 (by decide) rfl ?_ ?_
              · refine zX_aln1 (p := 180) d_77_179 rfl (zX_il4 (p := 182) d_77_180 rfl (zX_ic (p := 183) d_77_182 ci_0 rfl (zX_cV2v (p := 186) ⟨ow_74, by decide, zdr_74⟩ ha1 d_77_183 ow_77 rs_9_153 kk_74 rfl (s74 hL ha1) rfl rfl rfl rfl (fun M22 => ?_))))
                refine zX_ic (p := 187) d_77_186 ci_1 rfl ?_
                exact zX_retmb d_77_187 rt_77 (Or.inr rfl)
              · refine zX_ic (p := 178) d_77_177 ci_0 rfl ?_
                exact zX_retmb d_77_178 rt_77 (Or.inl rfl)
            · refine zX_ceq (p1 := 165) (p2 := 145) d_77_142 (by decide) rfl ?_ ?_
              · exact hj23 M16
              · refine zX_il4 (p := 147) d_77_145 rfl (zX_bi (p := 149) d_77_147 cb_61 rfl ?_)
                refine zX_ceq (p1 := 165) (p2 := 152) d_77_149 (by decide) rfl ?_ ?_
                · exact hj23 M16
                · refine zX_il4 (p := 154) d_77_152 rfl (zX_bi (p := 156) d_77_154 cb_62 rfl ?_)
                  refine zX_ceq (p1 := 165) (p2 := 159) d_77_156 (by decide) rfl ?_ ?_
                  · exact hj23 M16
                  · refine zX_aln0 (p := 160) d_77_159 rfl (zX_ic (p := 161) d_77_160 ci_1 rfl (zX_cV1m (p := 164) ⟨ow_70, by decide, zdr_70⟩ ht d_77_161 ow_77 rs_9_113 kk_70 rfl (s70 hL ht) rfl rfl rfl rfl (fun v24 M25 => ?_)))
                    try dsimp only
                    exact zX_retmg d_77_164 rt_77
          · refine zX_ic (p := 131) d_77_130 ci_0 rfl ?_
            exact zX_retmb d_77_131 rt_77 (Or.inl rfl)
        · refine zX_aln0 (p := 117) d_77_116 rfl (zX_aln1 (p := 118) d_77_117 rfl (zX_cV1m (p := 121) ⟨ow_79, by decide, zdr_79⟩ ht d_77_118 ow_77 rs_9_156 kk_79 rfl (s79 hL ht ha1) rfl rfl rfl rfl (fun v26 M27 => ?_)))
          try dsimp only
          exact zX_retmg d_77_121 rt_77
      · refine zX_cne (p1 := 112) (p2 := 19) d_77_16 (by decide) rfl ?_ ?_
        · exact hj28 ()
        · refine zX_iln2 (p := 20) d_77_19 rfl ?_
          refine zX_zne (p1 := 112) (p2 := 23) d_77_20 (by decide) rfl ?_ ?_
          · exact hj28 ()
          · exact hj14 M (.unset)

theorem s76_l9 {q : ZQ} {d : Nat} (hL : zLay q) {g77 : Nat → Nat → Int32 → Int32 → ZI → Option (Int32 × ZI)} (h77 : ∀ {t : Nat} {a1 : Nat} {a2 : Int32} {a3 : Int32} {M : ZI} (ht : zOb 9 t) (ha1 : zOb 5 a1), zX q (d + 4) 77 0 [.val (.ref t), .val (.ref a1), .val (.int a2), .val (.int a3), .unset] [] M (g77 t a1 a2 a3 M) zEm) {t : Nat} {a1 : Nat} {a2 : Int32} {a3 : Int32} (ht : zOb 9 t) (ha1 : zOb 5 a1) : ∀ (n : Nat) (x1 : Int32) (x2 : Int32) (x3 : Int32) (M4 : ZI), zX q (d + 5) 76 9 [.val (.ref t), .val (.ref a1), .val (.int a2), .val (.int a3), .val (.int x1), .val (.int x2), .val (.int x3)] [] M4 (f76_l9 g77 t a1 a2 a3 n x1 x2 x3 M4) zEm := by
  intro n
  induction n with
  | zero => intros; exact zX_none
  | succ n ih =>
    intro x1 x2 x3 M4
    rw [f76_l9]
    refine zX_il6 (p := 11) d_76_9 rfl (zX_si (p := 14) d_76_11 cs_400 rfl ?_)
    refine zX_cge (p1 := 111) (p2 := 17) d_76_14 (by decide) rfl ?_ ?_
    · refine zX_aln0 (p := 112) d_76_111 rfl (zX_ic (p := 113) d_76_112 ci_1 rfl (zX_cV1m (p := 116) ⟨ow_70, by decide, zdr_70⟩ ht d_76_113 ow_76 rs_9_113 kk_70 rfl (s70 hL ht) rfl rfl rfl rfl (fun v5 M6 => ?_)))
      try dsimp only
      exact zX_retmg d_76_116 rt_76
    · refine zX_aln0 (p := 18) d_76_17 rfl (zX_aln1 (p := 19) d_76_18 rfl (zX_iln2 (p := 20) d_76_19 rfl (zX_iln3 (p := 21) d_76_20 rfl (zX_cV3m (p := 24) ⟨ow_77, by decide, zdr_77⟩ ht d_76_21 ow_76 rs_9_150 kk_77 rfl (h77 ht ha1) rfl rfl rfl rfl (fun v7 M8 => ?_)))))
      try dsimp only
      refine zX_zne (p1 := 29) (p2 := 27) d_76_24 (by decide) rfl ?_ ?_
      · refine zX_il5 (p := 31) d_76_29 rfl ?_
        refine zX_bind (σ := Unit) (β := ZI) (pj := 42) (lj := fun (b : ZI) (s : Unit) => [.val (.ref t), .val (.ref a1), .val (.int a2), .val (.int a3), .val (.int x1), .val (.int x2), .val (.int x3)]) (sj := fun b => []) (mj := fun b => b) ?_ ?_
        · refine zX_zeq (p1 := 42) (p2 := 34) d_76_31 (by decide) rfl ?_ ?_
          · exact zX_leaf (fun _ _ h => h ())
          · refine zX_aln1 (p := 35) d_76_34 rfl (zX_si (p := 38) d_76_35 cs_261 rfl (zX_ic (p := 39) d_76_38 ci_0 rfl (zX_cV2v (p := 42) ⟨ow_74, by decide, zdr_74⟩ ha1 d_76_39 ow_76 rs_9_153 kk_74 rfl (s74 hL ha1) rfl rfl rfl rfl (fun M9 => ?_))))
            exact zX_leaf (fun _ _ h => h ())
        · rintro M10 _
          try dsimp only
          refine zX_aln0 (p := 43) d_76_42 rfl (zX_gi (p := 46) d_76_43 ow_76 gf_9_107 ht rfl (zX_si (p := 49) d_76_46 cs_261 rfl ?_))
          refine zX_bind (σ := Unit) (β := Int32) (pj := 57) (lj := fun (b : Int32) (s : Unit) => [.val (.ref t), .val (.ref a1), .val (.int a2), .val (.int a3), .val (.int x1), .val (.int x2), .val (.int x3)]) (sj := fun b => [.int b]) (mj := fun b => M10) ?_ ?_
          · refine zX_cne (p1 := 56) (p2 := 52) d_76_49 (by decide) rfl ?_ ?_
            · refine zX_ic (p := 57) d_76_56 ci_0 rfl ?_
              exact zX_leaf (fun _ _ h => h ())
            · refine zX_ic (p := 53) d_76_52 ci_1 rfl (zX_goto (p := 57) d_76_53 (by decide) ?_)
              exact zX_leaf (fun _ _ h => h ())
          · rintro v11 _
            try dsimp only
            refine zX_is5 (p := 59) d_76_57 rfl (zX_il5 (p := 61) d_76_59 rfl ?_)
            refine zX_jn (P := fun g => ∀ (x12 : Int32) (M13 : ZI), zX q (d + 5) 76 101 [.val (.ref t), .val (.ref a1), .val (.int a2), .val (.int a3), .val (.int x12), .val (.int v11), .val (.int x3)] [] M13 (g x12 M13) zEm) ?_ (fun j15 hj15 => ?_)
            · intro x12 M13
              try dsimp only
              refine zX_aln0 (p := 102) d_76_101 rfl (zX_cV0v (p := 105) ⟨ow_68, by decide, zdr_68⟩ ht d_76_102 ow_76 rs_9_67 kk_68 rfl (s68 hL ht) rfl rfl rfl rfl (fun M14 => ?_))
              refine zX_ii6 (p := 108) d_76_105 ci_1 rfl (zX_goto (p := 9) d_76_108 (by decide) ?_)
              exact ih x12 v11 (x3 + (1 : Int32)) M14
            · refine zX_zne (p1 := 101) (p2 := 64) d_76_61 (by decide) rfl ?_ ?_
              · exact hj15 x1 M10
              · refine zX_il4 (p := 66) d_76_64 rfl ?_
                refine zX_bind (σ := Unit) (β := ZI) (pj := 77) (lj := fun (b : ZI) (s : Unit) => [.val (.ref t), .val (.ref a1), .val (.int a2), .val (.int a3), .val (.int x1), .val (.int v11), .val (.int x3)]) (sj := fun b => []) (mj := fun b => b) ?_ ?_
                · refine zX_zeq (p1 := 77) (p2 := 69) d_76_66 (by decide) rfl ?_ ?_
                  · exact zX_leaf (fun _ _ h => h ())
                  · refine zX_aln1 (p := 70) d_76_69 rfl (zX_si (p := 73) d_76_70 cs_260 rfl (zX_ic (p := 74) d_76_73 ci_0 rfl (zX_cV2v (p := 77) ⟨ow_74, by decide, zdr_74⟩ ha1 d_76_74 ow_76 rs_9_153 kk_74 rfl (s74 hL ha1) rfl rfl rfl rfl (fun M16 => ?_))))
                    exact zX_leaf (fun _ _ h => h ())
                · rintro M17 _
                  try dsimp only
                  refine zX_aln0 (p := 78) d_76_77 rfl (zX_gi (p := 81) d_76_78 ow_76 gf_9_107 ht rfl (zX_si (p := 84) d_76_81 cs_260 rfl ?_))
                  refine zX_bind (σ := Unit) (β := Int32) (pj := 92) (lj := fun (b : Int32) (s : Unit) => [.val (.ref t), .val (.ref a1), .val (.int a2), .val (.int a3), .val (.int x1), .val (.int v11), .val (.int x3)]) (sj := fun b => [.int b]) (mj := fun b => M17) ?_ ?_
                  · refine zX_cne (p1 := 91) (p2 := 87) d_76_84 (by decide) rfl ?_ ?_
                    · refine zX_ic (p := 92) d_76_91 ci_0 rfl ?_
                      exact zX_leaf (fun _ _ h => h ())
                    · refine zX_ic (p := 88) d_76_87 ci_1 rfl (zX_goto (p := 92) d_76_88 (by decide) ?_)
                      exact zX_leaf (fun _ _ h => h ())
                  · rintro v18 _
                    try dsimp only
                    refine zX_is4 (p := 94) d_76_92 rfl (zX_il4 (p := 96) d_76_94 rfl ?_)
                    refine zX_zne (p1 := 101) (p2 := 99) d_76_96 (by decide) rfl ?_ ?_
                    · exact hj15 v18 M17
                    · refine zX_ic (p := 100) d_76_99 ci_1 rfl ?_
                      exact zX_retmb d_76_100 rt_76 (Or.inr rfl)
      · refine zX_ic (p := 28) d_76_27 ci_0 rfl ?_
        exact zX_retmb d_76_28 rt_76 (Or.inl rfl)

theorem s76_b {q : ZQ} {d : Nat} (hL : zLay q) {g77 : Nat → Nat → Int32 → Int32 → ZI → Option (Int32 × ZI)} (h77 : ∀ {t : Nat} {a1 : Nat} {a2 : Int32} {a3 : Int32} {M : ZI} (ht : zOb 9 t) (ha1 : zOb 5 a1), zX q (d + 4) 77 0 [.val (.ref t), .val (.ref a1), .val (.int a2), .val (.int a3), .unset] [] M (g77 t a1 a2 a3 M) zEm) {t : Nat} {a1 : Nat} {a2 : Int32} {a3 : Int32} {M : ZI} (ht : zOb 9 t) (ha1 : zOb 5 a1) : zX q (d + 5) 76 0 [.val (.ref t), .val (.ref a1), .val (.int a2), .val (.int a3), .unset, .unset, .unset] [] M (f76_readAny_b g77 t a1 a2 a3 M) zEm := by
  unfold f76_readAny_b
  refine zX_ic (p := 1) d_76_0 ci_0 rfl (zX_is4 (p := 3) d_76_1 rfl (zX_ic (p := 4) d_76_3 ci_0 rfl (zX_is5 (p := 6) d_76_4 rfl (zX_ic (p := 7) d_76_6 ci_0 rfl (zX_is6 (p := 9) d_76_7 rfl ?_)))))
  exact s76_l9 hL h77 ht ha1 zfu (0 : Int32) (0 : Int32) (0 : Int32) M

theorem sgA {q : ZQ} {d : Nat} (hL : zLay q) : ∀ f : Nat, (∀ {t : Nat} {a1 : Nat} {a2 : Int32} {a3 : Int32} {M : ZI} (ht : zOb 9 t) (ha1 : zOb 5 a1), zX q (d + 4 + f) 77 0 [.val (.ref t), .val (.ref a1), .val (.int a2), .val (.int a3), .unset] [] M (f77_readOne f t a1 a2 a3 M) zEm) ∧ (∀ {t : Nat} {a1 : Nat} {a2 : Int32} {a3 : Int32} {M : ZI} (ht : zOb 9 t) (ha1 : zOb 5 a1), zX q (d + 4 + f) 76 0 [.val (.ref t), .val (.ref a1), .val (.int a2), .val (.int a3), .unset, .unset, .unset] [] M (f76_readAny f t a1 a2 a3 M) zEm) := by
  intro f
  induction f with
  | zero => exact ⟨by intros; exact zX_none, by intros; exact zX_none⟩
  | succ f ih =>
    exact ⟨by intro t a1 a2 a3 M ht ha1; rw [show d + 4 + (f + 1) = d + f + 5 from by omega, fe77]; exact s77_b (d := d + f) (hL := hL) (g76 := f76_readAny f) (g77 := f77_readOne f) (h76 := by intro t a1 a2 a3 M ht ha1; rw [show d + f + 4 = d + 4 + f from by omega]; exact ih.2 ht ha1) (h77 := by intro t a1 a2 a3 M ht ha1; rw [show d + f + 4 = d + 4 + f from by omega]; exact ih.1 ht ha1) (ht := ht) (ha1 := ha1),
      by intro t a1 a2 a3 M ht ha1; rw [show d + 4 + (f + 1) = d + f + 5 from by omega, fe76]; exact s76_b (d := d + f) (hL := hL) (g77 := f77_readOne f) (h77 := by intro t a1 a2 a3 M ht ha1; rw [show d + f + 4 = d + 4 + f from by omega]; exact ih.1 ht ha1) (ht := ht) (ha1 := ha1)⟩
theorem s77 {q : ZQ} {d : Nat} (hL : zLay q) {t : Nat} {a1 : Nat} {a2 : Int32} {a3 : Int32} {M : ZI} (ht : zOb 9 t) (ha1 : zOb 5 a1) : zX q (d + 74) 77 0 [.val (.ref t), .val (.ref a1), .val (.int a2), .val (.int a3), .unset] [] M (f77_readOne zgf t a1 a2 a3 M) zEm := (sgA (d := d) hL zgf).1 ht ha1
theorem s76 {q : ZQ} {d : Nat} (hL : zLay q) {t : Nat} {a1 : Nat} {a2 : Int32} {a3 : Int32} {M : ZI} (ht : zOb 9 t) (ha1 : zOb 5 a1) : zX q (d + 74) 76 0 [.val (.ref t), .val (.ref a1), .val (.int a2), .val (.int a3), .unset, .unset, .unset] [] M (f76_readAny zgf t a1 a2 a3 M) zEm := (sgA (d := d) hL zgf).2 ht ha1

theorem s80 {q : ZQ} {d : Nat} (hL : zLay q) {t : Nat} {a1 : Int32} {a2 : Int32} {a3 : Int32} {M : ZI} (ht : zOb 4 t) : zX q d 80 0 [.val (.ref t), .val (.int a1), .val (.int a2), .val (.int a3)] [] M (f80_add t a1 a2 a3 M) zEv := by
  unfold f80_add
  refine zX_aln0 (p := 1) d_80_0 rfl (zX_gi (p := 4) d_80_1 ow_80 gf_4_41 ht rfl (zX_bi (p := 6) d_80_4 cb_16 rfl ?_))
  refine zX_cge (p1 := 65) (p2 := 9) d_80_6 (by decide) rfl ?_ ?_
  · exact zX_retv d_80_65 rt_80
  · refine zX_aln0 (p := 10) d_80_9 rfl (zX_gr (p := 13) (b := (t + 5)) d_80_10 ow_80 gf_4_18 ht (zr_4_1 hL ht) rfl (zX_aln0 (p := 14) d_80_13 rfl (zX_gi (p := 17) d_80_14 ow_80 gf_4_41 ht rfl (zX_iln1 (p := 18) d_80_17 rfl (zX_itg (p := 19) d_80_18 (zsa_4_1 ht) rfl (fun M1 => ?_))))))
    refine zX_aln0 (p := 20) d_80_19 rfl (zX_gr (p := 23) (b := (t + 6)) d_80_20 ow_80 gf_4_22 ht (zr_4_2 hL ht) rfl (zX_aln0 (p := 24) d_80_23 rfl (zX_gi (p := 27) d_80_24 ow_80 gf_4_41 ht rfl (zX_iln2 (p := 28) d_80_27 rfl (zX_itg (p := 29) d_80_28 (zsa_4_2 ht) rfl (fun M2 => ?_))))))
    refine zX_aln0 (p := 30) d_80_29 rfl (zX_gr (p := 33) (b := (t + 7)) d_80_30 ow_80 gf_4_25 ht (zr_4_3 hL ht) rfl (zX_aln0 (p := 34) d_80_33 rfl (zX_gi (p := 37) d_80_34 ow_80 gf_4_41 ht rfl (zX_iln3 (p := 38) d_80_37 rfl (zX_itg (p := 39) d_80_38 (zsa_4_3 ht) rfl (fun M3 => ?_))))))
    refine zX_aln0 (p := 40) d_80_39 rfl (zX_gr (p := 43) (b := (t + 8)) d_80_40 ow_80 gf_4_28 ht (zr_4_4 hL ht) rfl (zX_aln0 (p := 44) d_80_43 rfl (zX_gi (p := 47) d_80_44 ow_80 gf_4_41 ht rfl (zX_aln0 (p := 48) d_80_47 rfl (zX_gr (p := 51) (b := (t + 1)) d_80_48 ow_80 gf_4_12 ht (zr_4_0 hL ht) rfl (zX_gi (p := 54) d_80_51 ow_80 gf_4_45 (zso_4_0 ht) rfl (zX_itg (p := 55) d_80_54 (zsa_4_4 ht) rfl (fun M4 => ?_))))))))
    refine zX_aln0 (p := 56) d_80_55 rfl (zX_dup (p := 57) d_80_56 rfl rfl (zX_gi (p := 60) d_80_57 ow_80 gf_4_41 ht rfl (zX_ic (p := 61) d_80_60 ci_1 rfl (zX_add (p := 62) d_80_61 rfl (zX_pi (p := 65) d_80_62 ow_80 gf_4_41 ht rfl (fun M5 => ?_))))))
    exact zX_retv d_80_65 rt_80

theorem s69_l21 {q : ZQ} {d : Nat} (hL : zLay q) {t : Nat} (ht : zOb 9 t) : ∀ (n : Nat) (x3 : Int32) (M7 : ZI) (s4 : Slot) (s5 : Slot) (s6 : Slot), zX q (d + 75) 69 21 [.val (.ref t), .val (.int x3), s4, s5, s6] [] M7 (f69_l21 t n x3 M7) zEm := by
  intro n
  induction n with
  | zero => intros; exact zX_none
  | succ n ih =>
    intro x3 M7 s4 s5 s6
    rw [f69_l21]
    refine zX_iln1 (p := 22) d_69_21 rfl (zX_si (p := 25) d_69_22 cs_400 rfl ?_)
    refine zX_cge (p1 := 189) (p2 := 28) d_69_25 (by decide) rfl ?_ ?_
    · refine zX_ic (p := 190) d_69_189 ci_1 rfl ?_
      exact zX_retmb d_69_190 rt_69 (Or.inr rfl)
    · refine zX_aln0 (p := 29) d_69_28 rfl (zX_gi (p := 32) d_69_29 ow_69 gf_9_107 ht rfl (zX_ic (p := 33) d_69_32 ci_m1 rfl ?_))
      refine zX_ceq (p1 := 189) (p2 := 36) d_69_33 (by decide) rfl ?_ ?_
      · refine zX_ic (p := 190) d_69_189 ci_1 rfl ?_
        exact zX_retmb d_69_190 rt_69 (Or.inr rfl)
      · refine zX_aln0 (p := 37) d_69_36 rfl (zX_gi (p := 40) d_69_37 ow_69 gf_9_107 ht rfl (zX_jsn2 (p := 41) d_69_40 rfl (fun x8 => ?_)))
        refine zX_iln2 (p := 42) d_69_41 rfl (zX_si (p := 45) d_69_42 cs_256 rfl ?_)
        refine zX_jn (P := fun g => ∀  (M9 : ZI), zX q (d + 75) 69 68 [.val (.ref t), .val (.int x3), .val (.int x8), s5, s6] [] M9 (g M9) zEm) ?_ (fun j25 hj25 => ?_)
        · intro M9
          try dsimp only
          refine zX_aln0 (p := 69) d_69_68 rfl (zX_gr (p := 72) (b := (t + 5)) d_69_69 ow_69 gf_9_31 ht (zr_9_12 hL ht) rfl (zX_gi (p := 75) d_69_72 ow_69 gf_9_120 (zso_9_12 ht) rfl (zX_bi (p := 77) d_69_75 cb_16 rfl ?_)))
          refine zX_clt (p1 := 86) (p2 := 80) d_69_77 (by decide) rfl ?_ ?_
          · refine zX_aln0 (p := 87) d_69_86 rfl (zX_cV0v (p := 90) ⟨ow_68, by decide, zdr_68⟩ ht d_69_87 ow_69 rs_9_67 kk_68 rfl (s68 hL ht) rfl rfl rfl rfl (fun M10 => ?_))
            refine zX_aln0 (p := 91) d_69_90 rfl (zX_gr (p := 94) (b := (t + 5)) d_69_91 ow_69 gf_9_31 ht (zr_9_12 hL ht) rfl (zX_gr (p := 97) (b := (t + 6)) d_69_94 ow_69 gf_9_123 (zso_9_12 ht) (zr_4_0 hL (zso_9_12 ht)) rfl (zX_gi (p := 100) d_69_97 ow_69 gf_9_127 (zso_4_0 (zso_9_12 ht)) rfl (zX_jsn3 (p := 101) d_69_100 rfl (fun x11 => ?_)))))
            refine zX_aln0 (p := 102) d_69_101 rfl (zX_aln0 (p := 103) d_69_102 rfl (zX_gr (p := 106) (b := (t + 5)) d_69_103 ow_69 gf_9_31 ht (zr_9_12 hL ht) rfl (zX_gr (p := 109) (b := (t + 6)) d_69_106 ow_69 gf_9_123 (zso_9_12 ht) (zr_4_0 hL (zso_9_12 ht)) rfl (zX_cV1m (p := 112) ⟨ow_71, by decide, zdr_71⟩ ht d_69_109 ow_69 rs_9_132 kk_71 rfl (s71 hL ht (zso_4_0 (zso_9_12 ht))) rfl rfl rfl rfl (fun v12 M13 => ?_)))))
            try dsimp only
            refine zX_zne (p1 := 117) (p2 := 115) d_69_112 (by decide) rfl ?_ ?_
            · refine zX_aln0 (p := 118) d_69_117 rfl (zX_gr (p := 121) (b := (t + 5)) d_69_118 ow_69 gf_9_31 ht (zr_9_12 hL ht) rfl (zX_gr (p := 124) (b := (t + 6)) d_69_121 ow_69 gf_9_123 (zso_9_12 ht) (zr_4_0 hL (zso_9_12 ht)) rfl (zX_gi (p := 127) d_69_124 ow_69 gf_9_127 (zso_4_0 (zso_9_12 ht)) rfl (zX_js4 (p := 129) d_69_127 rfl (fun x14 => ?_)))))
              refine zX_aln0 (p := 130) d_69_129 rfl (zX_gi (p := 133) d_69_130 ow_69 gf_9_107 ht rfl (zX_si (p := 136) d_69_133 cs_259 rfl ?_))
              refine zX_jn (P := fun g => ∀  (M15 : ZI), zX q (d + 75) 69 161 [.val (.ref t), .val (.int x3), .val (.int x8), .val (.int x11), .val (.int x14)] [] M15 (g M15) zEm) ?_ (fun j19 hj19 => ?_)
              · intro M15
                try dsimp only
                refine zX_aln0 (p := 162) d_69_161 rfl (zX_bi (p := 164) d_69_162 cb_59 rfl (zX_cV1m (p := 167) ⟨ow_78, by decide, zdr_78⟩ ht d_69_164 ow_69 rs_9_140 kk_78 rfl (s78 hL ht) rfl rfl rfl rfl (fun v16 M17 => ?_)))
                try dsimp only
                refine zX_zne (p1 := 172) (p2 := 170) d_69_167 (by decide) rfl ?_ ?_
                · refine zX_aln0 (p := 173) d_69_172 rfl (zX_gr (p := 176) (b := (t + 5)) d_69_173 ow_69 gf_9_31 ht (zr_9_12 hL ht) rfl (zX_iln2 (p := 177) d_69_176 rfl (zX_iln3 (p := 178) d_69_177 rfl (zX_il4 (p := 180) d_69_178 rfl (zX_cV3v (p := 183) ⟨ow_80, by decide, zdr_80⟩ (zso_9_12 ht) d_69_180 ow_69 rs_9_143 kk_80 rfl (s80 hL (zso_9_12 ht)) rfl rfl rfl rfl (fun M18 => ?_))))))
                  refine zX_ii1 (p := 186) d_69_183 ci_1 rfl (zX_goto (p := 21) d_69_186 (by decide) ?_)
                  exact ih (x3 + (1 : Int32)) M18 (.val (.int x8)) (.val (.int x11)) (.val (.int x14))
                · refine zX_ic (p := 171) d_69_170 ci_0 rfl ?_
                  exact zX_retmb d_69_171 rt_69 (Or.inl rfl)
              · refine zX_cne (p1 := 161) (p2 := 139) d_69_136 (by decide) rfl ?_ ?_
                · exact hj19 M13
                · refine zX_aln0 (p := 140) d_69_139 rfl (zX_cV0v (p := 143) ⟨ow_68, by decide, zdr_68⟩ ht d_69_140 ow_69 rs_9_67 kk_68 rfl (s68 hL ht) rfl rfl rfl rfl (fun M20 => ?_))
                  refine zX_aln0 (p := 144) d_69_143 rfl (zX_aln0 (p := 145) d_69_144 rfl (zX_gr (p := 148) (b := (t + 5)) d_69_145 ow_69 gf_9_31 ht (zr_9_12 hL ht) rfl (zX_gr (p := 151) (b := (t + 6)) d_69_148 ow_69 gf_9_123 (zso_9_12 ht) (zr_4_0 hL (zso_9_12 ht)) rfl (zX_ic (p := 152) d_69_151 ci_0 rfl (zX_ic (p := 153) d_69_152 ci_0 rfl (zX_cV3m (p := 156) ⟨ow_76, by decide, zdr_76⟩ ht d_69_153 ow_69 rs_9_136 kk_76 rfl (s76 hL ht (zso_4_0 (zso_9_12 ht))) rfl rfl rfl rfl (fun v21 M22 => ?_)))))))
                  try dsimp only
                  refine zX_zne (p1 := 161) (p2 := 159) d_69_156 (by decide) rfl ?_ ?_
                  · exact hj19 M22
                  · refine zX_ic (p := 160) d_69_159 ci_0 rfl ?_
                    exact zX_retmb d_69_160 rt_69 (Or.inl rfl)
            · refine zX_ic (p := 116) d_69_115 ci_0 rfl ?_
              exact zX_retmb d_69_116 rt_69 (Or.inl rfl)
          · refine zX_aln0 (p := 81) d_69_80 rfl (zX_ic (p := 82) d_69_81 ci_3 rfl (zX_cV1m (p := 85) ⟨ow_70, by decide, zdr_70⟩ ht d_69_82 ow_69 rs_9_113 kk_70 rfl (s70 hL ht) rfl rfl rfl rfl (fun v23 M24 => ?_)))
            try dsimp only
            exact zX_retmg d_69_85 rt_69
        · refine zX_ceq (p1 := 68) (p2 := 48) d_69_45 (by decide) rfl ?_ ?_
          · exact hj25 M7
          · refine zX_iln2 (p := 49) d_69_48 rfl (zX_si (p := 52) d_69_49 cs_257 rfl ?_)
            refine zX_ceq (p1 := 68) (p2 := 55) d_69_52 (by decide) rfl ?_ ?_
            · exact hj25 M7
            · refine zX_iln2 (p := 56) d_69_55 rfl (zX_si (p := 59) d_69_56 cs_258 rfl ?_)
              refine zX_ceq (p1 := 68) (p2 := 62) d_69_59 (by decide) rfl ?_ ?_
              · exact hj25 M7
              · refine zX_aln0 (p := 63) d_69_62 rfl (zX_ic (p := 64) d_69_63 ci_1 rfl (zX_cV1m (p := 67) ⟨ow_70, by decide, zdr_70⟩ ht d_69_64 ow_69 rs_9_113 kk_70 rfl (s70 hL ht) rfl rfl rfl rfl (fun v26 M27 => ?_)))
                try dsimp only
                exact zX_retmg d_69_67 rt_69

theorem s69 {q : ZQ} {d : Nat} (hL : zLay q) {t : Nat} {M : ZI} (ht : zOb 9 t) : zX q (d + 75) 69 0 [.val (.ref t), .unset, .unset, .unset, .unset] [] M (f69_readLaw t M) zEm := by
  unfold f69_readLaw
  refine zX_aln0 (p := 1) d_69_0 rfl (zX_gr (p := 4) (b := (t + 5)) d_69_1 ow_69 gf_9_31 ht (zr_9_12 hL ht) rfl (zX_ic (p := 5) d_69_4 ci_0 rfl (zX_pi (p := 8) d_69_5 ow_69 gf_9_120 (zso_9_12 ht) rfl (fun M1 => ?_))))
  refine zX_aln0 (p := 9) d_69_8 rfl (zX_gr (p := 12) (b := (t + 5)) d_69_9 ow_69 gf_9_31 ht (zr_9_12 hL ht) rfl (zX_gr (p := 15) (b := (t + 6)) d_69_12 ow_69 gf_9_123 (zso_9_12 ht) (zr_4_0 hL (zso_9_12 ht)) rfl (zX_ic (p := 16) d_69_15 ci_0 rfl (zX_pi (p := 19) d_69_16 ow_69 gf_9_127 (zso_4_0 (zso_9_12 ht)) rfl (fun M2 => ?_)))))
  refine zX_ic (p := 20) d_69_19 ci_0 rfl (zX_isn1 (p := 21) d_69_20 rfl ?_)
  exact s69_l21 hL ht zfu (0 : Int32) M2 (.unset) (.unset) (.unset)

theorem s82 {q : ZQ} {d : Nat} (hL : zLay q) {t : Nat} {a1 : Nat} {M : ZI} (ht : zOb 5 t) (ha1 : zOb 5 a1) : zX q d 82 0 [.val (.ref t), .val (.ref a1)] [] M (f82_copy t a1 M) zEv := by
  unfold f82_copy
  refine zX_aln1 (p := 1) d_82_0 rfl (zX_gr (p := 4) (b := (a1 + 1)) d_82_1 ow_82 gf_5_9 ha1 (zr_5_0 hL ha1) rfl (zX_ic (p := 5) d_82_4 ci_0 rfl (zX_aln0 (p := 6) d_82_5 rfl (zX_gr (p := 9) (b := (t + 1)) d_82_6 ow_82 gf_5_9 ht (zr_5_0 hL ht) rfl (zX_ic (p := 10) d_82_9 ci_0 rfl (zX_si (p := 13) d_82_10 cs_400 rfl (zX_cpy (p := 16) d_82_13 ow_82 rs_5_21 (zsa_5_0 ht) (zsa_5_0 ha1) ⟨by decide, by decide, by decide⟩ ⟨by decide, by decide, by decide⟩ ⟨by decide, by decide⟩ rfl rfl (fun M1 => ?_))))))))
  refine zX_aln1 (p := 17) d_82_16 rfl (zX_gr (p := 20) (b := (a1 + 2)) d_82_17 ow_82 gf_5_15 ha1 (zr_5_1 hL ha1) rfl (zX_ic (p := 21) d_82_20 ci_0 rfl (zX_aln0 (p := 22) d_82_21 rfl (zX_gr (p := 25) (b := (t + 2)) d_82_22 ow_82 gf_5_15 ht (zr_5_1 hL ht) rfl (zX_ic (p := 26) d_82_25 ci_0 rfl (zX_si (p := 29) d_82_26 cs_400 rfl (zX_cpy (p := 32) d_82_29 ow_82 rs_5_21 (zsa_5_1 ht) (zsa_5_1 ha1) ⟨by decide, by decide, by decide⟩ ⟨by decide, by decide, by decide⟩ ⟨by decide, by decide⟩ rfl rfl (fun M2 => ?_))))))))
  refine zX_aln0 (p := 33) d_82_32 rfl (zX_aln1 (p := 34) d_82_33 rfl (zX_gi (p := 37) d_82_34 ow_82 gf_5_27 ha1 rfl (zX_pi (p := 40) d_82_37 ow_82 gf_5_27 ht rfl (fun M3 => ?_))))
  exact zX_retv d_82_40 rt_82

theorem s81 {q : ZQ} {d : Nat} (hL : zLay q) {t : Nat} {a1 : Nat} {M : ZI} (ht : zOb 4 t) (ha1 : zOb 4 a1) : zX q (d + 1) 81 0 [.val (.ref t), .val (.ref a1)] [] M (f81_copy t a1 M) zEv := by
  unfold f81_copy
  refine zX_aln0 (p := 1) d_81_0 rfl (zX_gr (p := 4) (b := (t + 1)) d_81_1 ow_81 gf_4_12 ht (zr_4_0 hL ht) rfl (zX_aln1 (p := 5) d_81_4 rfl (zX_gr (p := 8) (b := (a1 + 1)) d_81_5 ow_81 gf_4_12 ha1 (zr_4_0 hL ha1) rfl (zX_cV1v (p := 11) ⟨ow_82, by decide, zdr_82⟩ (zso_4_0 ht) d_81_8 ow_81 rs_4_31 kk_82 rfl (s82 hL (zso_4_0 ht) (zso_4_0 ha1)) rfl rfl rfl rfl (fun M1 => ?_)))))
  refine zX_aln1 (p := 12) d_81_11 rfl (zX_gr (p := 15) (b := (a1 + 5)) d_81_12 ow_81 gf_4_18 ha1 (zr_4_1 hL ha1) rfl (zX_ic (p := 16) d_81_15 ci_0 rfl (zX_aln0 (p := 17) d_81_16 rfl (zX_gr (p := 20) (b := (t + 5)) d_81_17 ow_81 gf_4_18 ht (zr_4_1 hL ht) rfl (zX_ic (p := 21) d_81_20 ci_0 rfl (zX_bi (p := 23) d_81_21 cb_16 rfl (zX_cpy (p := 26) d_81_23 ow_81 rs_4_35 (zsa_4_1 ht) (zsa_4_1 ha1) ⟨by decide, by decide, by decide⟩ ⟨by decide, by decide, by decide⟩ ⟨by decide, by decide⟩ rfl rfl (fun M2 => ?_))))))))
  refine zX_aln1 (p := 27) d_81_26 rfl (zX_gr (p := 30) (b := (a1 + 6)) d_81_27 ow_81 gf_4_22 ha1 (zr_4_2 hL ha1) rfl (zX_ic (p := 31) d_81_30 ci_0 rfl (zX_aln0 (p := 32) d_81_31 rfl (zX_gr (p := 35) (b := (t + 6)) d_81_32 ow_81 gf_4_22 ht (zr_4_2 hL ht) rfl (zX_ic (p := 36) d_81_35 ci_0 rfl (zX_bi (p := 38) d_81_36 cb_16 rfl (zX_cpy (p := 41) d_81_38 ow_81 rs_4_35 (zsa_4_2 ht) (zsa_4_2 ha1) ⟨by decide, by decide, by decide⟩ ⟨by decide, by decide, by decide⟩ ⟨by decide, by decide⟩ rfl rfl (fun M3 => ?_))))))))
  refine zX_aln1 (p := 42) d_81_41 rfl (zX_gr (p := 45) (b := (a1 + 7)) d_81_42 ow_81 gf_4_25 ha1 (zr_4_3 hL ha1) rfl (zX_ic (p := 46) d_81_45 ci_0 rfl (zX_aln0 (p := 47) d_81_46 rfl (zX_gr (p := 50) (b := (t + 7)) d_81_47 ow_81 gf_4_25 ht (zr_4_3 hL ht) rfl (zX_ic (p := 51) d_81_50 ci_0 rfl (zX_bi (p := 53) d_81_51 cb_16 rfl (zX_cpy (p := 56) d_81_53 ow_81 rs_4_35 (zsa_4_3 ht) (zsa_4_3 ha1) ⟨by decide, by decide, by decide⟩ ⟨by decide, by decide, by decide⟩ ⟨by decide, by decide⟩ rfl rfl (fun M4 => ?_))))))))
  refine zX_aln1 (p := 57) d_81_56 rfl (zX_gr (p := 60) (b := (a1 + 8)) d_81_57 ow_81 gf_4_28 ha1 (zr_4_4 hL ha1) rfl (zX_ic (p := 61) d_81_60 ci_0 rfl (zX_aln0 (p := 62) d_81_61 rfl (zX_gr (p := 65) (b := (t + 8)) d_81_62 ow_81 gf_4_28 ht (zr_4_4 hL ht) rfl (zX_ic (p := 66) d_81_65 ci_0 rfl (zX_bi (p := 68) d_81_66 cb_16 rfl (zX_cpy (p := 71) d_81_68 ow_81 rs_4_35 (zsa_4_4 ht) (zsa_4_4 ha1) ⟨by decide, by decide, by decide⟩ ⟨by decide, by decide, by decide⟩ ⟨by decide, by decide⟩ rfl rfl (fun M5 => ?_))))))))
  refine zX_aln0 (p := 72) d_81_71 rfl (zX_aln1 (p := 73) d_81_72 rfl (zX_gi (p := 76) d_81_73 ow_81 gf_4_41 ha1 rfl (zX_pi (p := 79) d_81_76 ow_81 gf_4_41 ht rfl (fun M6 => ?_))))
  exact zX_retv d_81_79 rt_81

theorem s83_l2 {q : ZQ} {d : Nat} (hL : zLay q) {t : Nat} (ht : zOb 9 t) : ∀ (n : Nat) (x1 : Int32) (M2 : ZI), zX q (d + 2) 83 2 [.val (.ref t), .val (.int x1), .unset] [] M2 (f83_l2 t n x1 M2) (zEj q (d + 2) 83 21 (fun (b : ZI) (s : Slot) => [.val (.ref t), s, .unset]) (fun b => []) (fun b => b)) := by
  intro n
  induction n with
  | zero => intros; exact zX_none
  | succ n ih =>
    intro x1 M2
    rw [f83_l2]
    refine zX_iln1 (p := 3) d_83_2 rfl (zX_bi (p := 5) d_83_3 cb_10 rfl ?_)
    refine zX_cge (p1 := 21) (p2 := 8) d_83_5 (by decide) rfl ?_ ?_
    · exact zX_leaf (fun _ _ h => h (.val (.int x1)))
    · refine zX_aln0 (p := 9) d_83_8 rfl (zX_gr (p := 12) (b := (t + 14)) d_83_9 ow_83 gf_9_35 ht (zr_9_13 hL ht) rfl (zX_iln1 (p := 13) d_83_12 rfl (zX_ic (p := 14) d_83_13 ci_m1 rfl (zX_itg (p := 15) d_83_14 (zsa_9_13 ht) rfl (fun M3 => ?_)))))
      refine zX_ii1 (p := 18) d_83_15 ci_1 rfl (zX_goto (p := 2) d_83_18 (by decide) ?_)
      exact ih (x1 + (1 : Int32)) M3

theorem s83_l23 {q : ZQ} {d : Nat} (hL : zLay q) {t : Nat} (ht : zOb 9 t) : ∀ (n : Nat) (x6 : Int32) (M8 : ZI) (s7 : Slot), zX q (d + 2) 83 23 [.val (.ref t), .val (.int x6), s7] [] M8 (f83_l23 t n x6 M8) zEm := by
  intro n
  induction n with
  | zero => intros; exact zX_none
  | succ n ih =>
    intro x6 M8 s7
    rw [f83_l23]
    refine zX_iln1 (p := 24) d_83_23 rfl (zX_si (p := 27) d_83_24 cs_400 rfl ?_)
    refine zX_cge (p1 := 156) (p2 := 30) d_83_27 (by decide) rfl ?_ ?_
    · refine zX_ic (p := 157) d_83_156 ci_1 rfl ?_
      exact zX_retmb d_83_157 rt_83 (Or.inr rfl)
    · refine zX_aln0 (p := 31) d_83_30 rfl (zX_gi (p := 34) d_83_31 ow_83 gf_9_107 ht rfl (zX_ic (p := 35) d_83_34 ci_m1 rfl ?_))
      refine zX_ceq (p1 := 156) (p2 := 38) d_83_35 (by decide) rfl ?_ ?_
      · refine zX_ic (p := 157) d_83_156 ci_1 rfl ?_
        exact zX_retmb d_83_157 rt_83 (Or.inr rfl)
      · refine zX_aln0 (p := 39) d_83_38 rfl (zX_ic (p := 40) d_83_39 ci_0 rfl (zX_aln0 (p := 41) d_83_40 rfl (zX_gi (p := 44) d_83_41 ow_83 gf_9_55 ht rfl (zX_ic (p := 45) d_83_44 ci_1 rfl (zX_sub (p := 46) d_83_45 rfl (zX_cV2m (p := 49) ⟨ow_75, by decide, zdr_75⟩ ht d_83_46 ow_83 rs_9_159 kk_75 rfl (s75 hL ht) rfl rfl rfl rfl (fun v9 M10 => ?_)))))))
        try dsimp only
        refine zX_zne (p1 := 54) (p2 := 52) d_83_49 (by decide) rfl ?_ ?_
        · refine zX_aln0 (p := 55) d_83_54 rfl (zX_gi (p := 58) d_83_55 ow_83 gf_9_110 ht rfl (zX_jsn2 (p := 59) d_83_58 rfl (fun x11 => ?_)))
          refine zX_iln2 (p := 60) d_83_59 rfl (zX_bi (p := 62) d_83_60 cb_10 rfl ?_)
          refine zX_jn (P := fun g => ∀  (M12 : ZI) (s13 : Slot), zX q (d + 2) 83 75 [.val (.ref t), s13, .val (.int x11)] [] M12 (g M12) zEm) ?_ (fun j16 hj16 => ?_)
          · intro M12 s13
            try dsimp only
            refine zX_aln0 (p := 76) d_83_75 rfl (zX_ic (p := 77) d_83_76 ci_2 rfl (zX_cV1m (p := 80) ⟨ow_70, by decide, zdr_70⟩ ht d_83_77 ow_83 rs_9_113 kk_70 rfl (s70 hL ht) rfl rfl rfl rfl (fun v14 M15 => ?_)))
            try dsimp only
            exact zX_retmg d_83_80 rt_83
          · refine zX_cge (p1 := 75) (p2 := 65) d_83_62 (by decide) rfl ?_ ?_
            · exact hj16 M10 (.val (.int x6))
            · refine zX_aln0 (p := 66) d_83_65 rfl (zX_gr (p := 69) (b := (t + 14)) d_83_66 ow_83 gf_9_35 ht (zr_9_13 hL ht) rfl (zX_iln2 (p := 70) d_83_69 rfl (zX_iag (p := 71) d_83_70 (zsa_9_13 ht) rfl (zX_ic (p := 72) d_83_71 ci_m1 rfl ?_))))
              refine zX_ceq (p1 := 81) (p2 := 75) d_83_72 (by decide) rfl ?_ ?_
              · refine zX_aln0 (p := 82) d_83_81 rfl (zX_cV0v (p := 85) ⟨ow_68, by decide, zdr_68⟩ ht d_83_82 ow_83 rs_9_67 kk_68 rfl (s68 hL ht) rfl rfl rfl rfl (fun M17 => ?_))
                refine zX_aln0 (p := 86) d_83_85 rfl (zX_si (p := 89) d_83_86 cs_272 rfl (zX_cV1m (p := 92) ⟨ow_78, by decide, zdr_78⟩ ht d_83_89 ow_83 rs_9_140 kk_78 rfl (s78 hL ht) rfl rfl rfl rfl (fun v18 M19 => ?_)))
                try dsimp only
                refine zX_zeq (p1 := 109) (p2 := 95) d_83_92 (by decide) rfl ?_ ?_
                · refine zX_ic (p := 110) d_83_109 ci_0 rfl ?_
                  exact zX_retmb d_83_110 rt_83 (Or.inl rfl)
                · refine zX_aln0 (p := 96) d_83_95 rfl (zX_ic (p := 97) d_83_96 ci_0 rfl (zX_aln0 (p := 98) d_83_97 rfl (zX_gi (p := 101) d_83_98 ow_83 gf_9_55 ht rfl (zX_ic (p := 102) d_83_101 ci_1 rfl (zX_sub (p := 103) d_83_102 rfl (zX_cV2m (p := 106) ⟨ow_75, by decide, zdr_75⟩ ht d_83_103 ow_83 rs_9_159 kk_75 rfl (s75 hL ht) rfl rfl rfl rfl (fun v20 M21 => ?_)))))))
                  try dsimp only
                  refine zX_zne (p1 := 111) (p2 := 109) d_83_106 (by decide) rfl ?_ ?_
                  · refine zX_aln0 (p := 112) d_83_111 rfl (zX_gi (p := 115) d_83_112 ow_83 gf_9_110 ht rfl (zX_iln2 (p := 116) d_83_115 rfl ?_))
                    refine zX_cne (p1 := 125) (p2 := 119) d_83_116 (by decide) rfl ?_ ?_
                    · refine zX_aln0 (p := 126) d_83_125 rfl (zX_gr (p := 129) (b := (t + 14)) d_83_126 ow_83 gf_9_35 ht (zr_9_13 hL ht) rfl (zX_iln2 (p := 130) d_83_129 rfl (zX_aln0 (p := 131) d_83_130 rfl (zX_gi (p := 134) d_83_131 ow_83 gf_9_110 ht rfl (zX_itg (p := 135) d_83_134 (zsa_9_13 ht) rfl (fun M22 => ?_))))))
                      refine zX_aln0 (p := 136) d_83_135 rfl (zX_cV0v (p := 139) ⟨ow_68, by decide, zdr_68⟩ ht d_83_136 ow_83 rs_9_67 kk_68 rfl (s68 hL ht) rfl rfl rfl rfl (fun M23 => ?_))
                      refine zX_aln0 (p := 140) d_83_139 rfl (zX_bi (p := 142) d_83_140 cb_59 rfl (zX_cV1m (p := 145) ⟨ow_78, by decide, zdr_78⟩ ht d_83_142 ow_83 rs_9_140 kk_78 rfl (s78 hL ht) rfl rfl rfl rfl (fun v24 M25 => ?_)))
                      try dsimp only
                      refine zX_zne (p1 := 150) (p2 := 148) d_83_145 (by decide) rfl ?_ ?_
                      · refine zX_ii1 (p := 153) d_83_150 ci_1 rfl (zX_goto (p := 23) d_83_153 (by decide) ?_)
                        exact ih (x6 + (1 : Int32)) M25 (.val (.int x11))
                      · refine zX_ic (p := 149) d_83_148 ci_0 rfl ?_
                        exact zX_retmb d_83_149 rt_83 (Or.inl rfl)
                    · refine zX_aln0 (p := 120) d_83_119 rfl (zX_ic (p := 121) d_83_120 ci_2 rfl (zX_cV1m (p := 124) ⟨ow_70, by decide, zdr_70⟩ ht d_83_121 ow_83 rs_9_113 kk_70 rfl (s70 hL ht) rfl rfl rfl rfl (fun v26 M27 => ?_)))
                      try dsimp only
                      exact zX_retmg d_83_124 rt_83
                  · refine zX_ic (p := 110) d_83_109 ci_0 rfl ?_
                    exact zX_retmb d_83_110 rt_83 (Or.inl rfl)
              · exact hj16 M10 (.val (.int x6))
        · refine zX_ic (p := 53) d_83_52 ci_0 rfl ?_
          exact zX_retmb d_83_53 rt_83 (Or.inl rfl)

theorem s83 {q : ZQ} {d : Nat} (hL : zLay q) {t : Nat} {M : ZI} (ht : zOb 9 t) : zX q (d + 2) 83 0 [.val (.ref t), .unset, .unset] [] M (f83_readVoices t M) zEm := by
  unfold f83_readVoices
  refine zX_ic (p := 1) d_83_0 ci_0 rfl (zX_isn1 (p := 2) d_83_1 rfl ?_)
  refine zX_bind (s83_l2 hL ht zfu (0 : Int32) M) ?_
  rintro M4 s5
  try dsimp only
  refine zX_ic (p := 22) d_83_21 ci_0 rfl (zX_isn1 (p := 23) d_83_22 rfl ?_)
  exact s83_l23 hL ht zfu (0 : Int32) M4 (.unset)

theorem s84_l4 {q : ZQ} {d : Nat} (hL : zLay q) {t : Nat} {M : ZI} (ht : zOb 1 t) : ∀ (n : Nat) (x1 : Int32) (x2 : Int32), zX q d 84 4 [.val (.ref t), .val (.int x1), .val (.int x2)] [] M (f84_l4 t M n x1 x2) (zEj q d 84 36 (fun (b : Int32) (s : Slot) => [.val (.ref t), .val (.int b), s]) (fun b => []) (fun b => M)) := by
  intro n
  induction n with
  | zero => intros; exact zX_none
  | succ n ih =>
    intro x1 x2
    rw [f84_l4]
    refine zX_iln2 (p := 5) d_84_4 rfl (zX_aln0 (p := 6) d_84_5 rfl (zX_gi (p := 9) d_84_6 ow_84 gf_1_101 ht rfl ?_))
    refine zX_cge (p1 := 36) (p2 := 12) d_84_9 (by decide) rfl ?_ ?_
    · exact zX_leaf (fun _ _ h => h (.val (.int x2)))
    · refine zX_iln1 (p := 13) d_84_12 rfl (zX_aln0 (p := 14) d_84_13 rfl (zX_gr (p := 17) (b := (t + 38)) d_84_14 ow_84 gf_1_60 ht (zr_1_8 hL ht) rfl (zX_iln2 (p := 18) d_84_17 rfl (zX_iag (p := 19) d_84_18 (zsa_1_8 ht) rfl (zX_ic (p := 20) d_84_19 ci_m1 rfl ?_)))))
      refine zX_cne (p1 := 27) (p2 := 23) d_84_20 (by decide) rfl ?_ ?_
      · refine zX_ic (p := 28) d_84_27 ci_1 rfl (zX_add (p := 29) d_84_28 rfl (zX_jsn1 (p := 30) d_84_29 rfl (fun x3 => ?_)))
        refine zX_ii2 (p := 33) d_84_30 ci_1 rfl (zX_goto (p := 4) d_84_33 (by decide) ?_)
        exact ih x3 (x2 + (1 : Int32))
      · refine zX_ic (p := 24) d_84_23 ci_0 rfl (zX_goto (p := 28) d_84_24 (by decide) (zX_add (p := 29) d_84_28 rfl (zX_jsn1 (p := 30) d_84_29 rfl (fun x4 => ?_))))
        refine zX_ii2 (p := 33) d_84_30 ci_1 rfl (zX_goto (p := 4) d_84_33 (by decide) ?_)
        exact ih x4 (x2 + (1 : Int32))

theorem s84 {q : ZQ} {d : Nat} (hL : zLay q) {t : Nat} {M : ZI} (ht : zOb 1 t) : zX q d 84 0 [.val (.ref t), .unset, .unset] [] M (f84_voices t M) (zEi M) := by
  unfold f84_voices
  refine zX_ic (p := 1) d_84_0 ci_0 rfl (zX_isn1 (p := 2) d_84_1 rfl (zX_ic (p := 3) d_84_2 ci_0 rfl (zX_isn2 (p := 4) d_84_3 rfl ?_)))
  refine zX_bind (s84_l4 hL ht zfu (0 : Int32) (0 : Int32)) ?_
  rintro x5 s6
  try dsimp only
  refine zX_iln1 (p := 37) d_84_36 rfl ?_
  exact zX_reti d_84_37 rt_84

theorem s86 {q : ZQ} {d : Nat} (hL : zLay q) {t : Nat} {a1 : Int32} {a2 : Nat} {a3 : Int32} {a4 : Int32} {M : ZI} (ht : zOb 9 t) (ha2 : zAr a2 (zal a2)) : zX q (d + 2) 86 0 [.val (.ref t), .val (.int a1), .val (.ref a2), .val (.int a3), .val (.int a4)] [] M (f86_readEntry t a1 a2 a3 a4 M) zEm := by
  unfold f86_readEntry
  refine zX_aln0 (p := 1) d_86_0 rfl (zX_iln1 (p := 2) d_86_1 rfl (zX_cV1m (p := 5) ⟨ow_78, by decide, zdr_78⟩ ht d_86_2 ow_86 rs_9_140 kk_78 rfl (s78 hL ht) rfl rfl rfl rfl (fun v1 M2 => ?_)))
  try dsimp only
  refine zX_zeq (p1 := 18) (p2 := 8) d_86_5 (by decide) rfl ?_ ?_
  · refine zX_ic (p := 19) d_86_18 ci_0 rfl ?_
    exact zX_retmb d_86_19 rt_86 (Or.inl rfl)
  · refine zX_aln0 (p := 9) d_86_8 rfl (zX_iln3 (p := 10) d_86_9 rfl (zX_il4 (p := 12) d_86_10 rfl (zX_cV2m (p := 15) ⟨ow_75, by decide, zdr_75⟩ ht d_86_12 ow_86 rs_9_159 kk_75 rfl (s75 hL ht) rfl rfl rfl rfl (fun v3 M4 => ?_))))
    try dsimp only
    refine zX_zne (p1 := 20) (p2 := 18) d_86_15 (by decide) rfl ?_ ?_
    · refine zX_aln0 (p := 21) d_86_20 rfl (zX_gr (p := 24) (b := (t + 15)) d_86_21 ow_86 gf_9_41 ht (zr_9_14 hL ht) rfl (zX_gi (p := 27) d_86_24 ow_86 gf_9_169 (zso_9_14 ht) rfl (zX_aln2 (p := 28) d_86_27 rfl (zX_len (p := 29) d_86_28 ha2 rfl ?_))))
      refine zX_bind (σ := Unit) (β := ZI) (pj := 45) (lj := fun (b : ZI) (s : Unit) => [.val (.ref t), .val (.int a1), .val (.ref a2), .val (.int a3), .val (.int a4)]) (sj := fun b => []) (mj := fun b => b) ?_ ?_
      · refine zX_cge (p1 := 45) (p2 := 32) d_86_29 (by decide) rfl ?_ ?_
        · exact zX_leaf (fun _ _ h => h ())
        · refine zX_aln2 (p := 33) d_86_32 rfl (zX_aln0 (p := 34) d_86_33 rfl (zX_gr (p := 37) (b := (t + 15)) d_86_34 ow_86 gf_9_41 ht (zr_9_14 hL ht) rfl (zX_gi (p := 40) d_86_37 ow_86 gf_9_169 (zso_9_14 ht) rfl (zX_aln0 (p := 41) d_86_40 rfl (zX_gi (p := 44) d_86_41 ow_86 gf_9_110 ht rfl (zX_itg (p := 45) d_86_44 ha2 rfl (fun M5 => ?_)))))))
          exact zX_leaf (fun _ _ h => h ())
      · rintro M6 _
        try dsimp only
        refine zX_aln0 (p := 46) d_86_45 rfl (zX_cV0v (p := 49) ⟨ow_68, by decide, zdr_68⟩ ht d_86_46 ow_86 rs_9_67 kk_68 rfl (s68 hL ht) rfl rfl rfl rfl (fun M7 => ?_))
        refine zX_ic (p := 50) d_86_49 ci_1 rfl ?_
        exact zX_retmb d_86_50 rt_86 (Or.inr rfl)
    · refine zX_ic (p := 19) d_86_18 ci_0 rfl ?_
      exact zX_retmb d_86_19 rt_86 (Or.inl rfl)

theorem s87 {q : ZQ} {d : Nat} (hL : zLay q) {t : Nat} {M : ZI} (ht : zOb 9 t) : zX q (d + 2) 87 0 [.val (.ref t), .unset] [] M (f87_readAfter t M) zEm := by
  unfold f87_readAfter
  refine zX_aln0 (p := 1) d_87_0 rfl (zX_gr (p := 4) (b := (t + 15)) d_87_1 ow_87 gf_9_41 ht (zr_9_14 hL ht) rfl (zX_gi (p := 7) d_87_4 ow_87 gf_9_169 (zso_9_14 ht) rfl (zX_jsn1 (p := 8) d_87_7 rfl (fun x1 => ?_))))
  refine zX_aln0 (p := 9) d_87_8 rfl (zX_gr (p := 12) (b := (t + 15)) d_87_9 ow_87 gf_9_41 ht (zr_9_14 hL ht) rfl (zX_gr (p := 15) (b := (t + 21)) d_87_12 ow_87 gf_9_195 (zso_9_14 ht) (zr_6_5 hL (zso_9_14 ht)) rfl (zX_iln1 (p := 16) d_87_15 rfl (zX_ic (p := 17) d_87_16 ci_m1 rfl (zX_itg (p := 18) d_87_17 (zsa_6_5 (zso_9_14 ht)) rfl (fun M2 => ?_))))))
  refine zX_aln0 (p := 19) d_87_18 rfl (zX_gi (p := 22) d_87_19 ow_87 gf_9_107 ht rfl (zX_si (p := 25) d_87_22 cs_278 rfl ?_))
  refine zX_ceq (p1 := 30) (p2 := 28) d_87_25 (by decide) rfl ?_ ?_
  · refine zX_aln0 (p := 31) d_87_30 rfl (zX_cV0v (p := 34) ⟨ow_68, by decide, zdr_68⟩ ht d_87_31 ow_87 rs_9_67 kk_68 rfl (s68 hL ht) rfl rfl rfl rfl (fun M3 => ?_))
    refine zX_aln0 (p := 35) d_87_34 rfl (zX_ic (p := 36) d_87_35 ci_0 rfl (zX_iln1 (p := 37) d_87_36 rfl (zX_ic (p := 38) d_87_37 ci_1 rfl (zX_sub (p := 39) d_87_38 rfl (zX_cV2m (p := 42) ⟨ow_75, by decide, zdr_75⟩ ht d_87_39 ow_87 rs_9_159 kk_75 rfl (s75 hL ht) rfl rfl rfl rfl (fun v4 M5 => ?_))))))
    try dsimp only
    refine zX_zne (p1 := 47) (p2 := 45) d_87_42 (by decide) rfl ?_ ?_
    · refine zX_aln0 (p := 48) d_87_47 rfl (zX_gr (p := 51) (b := (t + 15)) d_87_48 ow_87 gf_9_41 ht (zr_9_14 hL ht) rfl (zX_gr (p := 54) (b := (t + 16)) d_87_51 ow_87 gf_9_172 (zso_9_14 ht) (zr_6_0 hL (zso_9_14 ht)) rfl (zX_aln0 (p := 55) d_87_54 rfl (zX_gi (p := 58) d_87_55 ow_87 gf_9_110 ht rfl (zX_iag (p := 59) d_87_58 (zsa_6_0 (zso_9_14 ht)) rfl (zX_aln0 (p := 60) d_87_59 rfl (zX_gr (p := 63) (b := (t + 15)) d_87_60 ow_87 gf_9_41 ht (zr_9_14 hL ht) rfl ?_)))))))
      refine zX_gr (p := 66) (b := (t + 16)) d_87_63 ow_87 gf_9_172 (zso_9_14 ht) (zr_6_0 hL (zso_9_14 ht)) rfl (zX_iln1 (p := 67) d_87_66 rfl (zX_iag (p := 68) d_87_67 (zsa_6_0 (zso_9_14 ht)) rfl ?_))
      refine zX_ceq (p1 := 77) (p2 := 71) d_87_68 (by decide) rfl ?_ ?_
      · refine zX_aln0 (p := 78) d_87_77 rfl (zX_gr (p := 81) (b := (t + 15)) d_87_78 ow_87 gf_9_41 ht (zr_9_14 hL ht) rfl (zX_gr (p := 84) (b := (t + 21)) d_87_81 ow_87 gf_9_195 (zso_9_14 ht) (zr_6_5 hL (zso_9_14 ht)) rfl (zX_iln1 (p := 85) d_87_84 rfl (zX_aln0 (p := 86) d_87_85 rfl (zX_gi (p := 89) d_87_86 ow_87 gf_9_110 ht rfl (zX_itg (p := 90) d_87_89 (zsa_6_5 (zso_9_14 ht)) rfl (fun M6 => ?_)))))))
        refine zX_aln0 (p := 91) d_87_90 rfl (zX_cV0v (p := 94) ⟨ow_68, by decide, zdr_68⟩ ht d_87_91 ow_87 rs_9_67 kk_68 rfl (s68 hL ht) rfl rfl rfl rfl (fun M7 => ?_))
        refine zX_ic (p := 95) d_87_94 ci_1 rfl ?_
        exact zX_retmb d_87_95 rt_87 (Or.inr rfl)
      · refine zX_aln0 (p := 72) d_87_71 rfl (zX_ic (p := 73) d_87_72 ci_2 rfl (zX_cV1m (p := 76) ⟨ow_70, by decide, zdr_70⟩ ht d_87_73 ow_87 rs_9_113 kk_70 rfl (s70 hL ht) rfl rfl rfl rfl (fun v8 M9 => ?_)))
        try dsimp only
        exact zX_retmg d_87_76 rt_87
    · refine zX_ic (p := 46) d_87_45 ci_0 rfl ?_
      exact zX_retmb d_87_46 rt_87 (Or.inl rfl)
  · refine zX_ic (p := 29) d_87_28 ci_1 rfl ?_
    exact zX_retmb d_87_29 rt_87 (Or.inr rfl)

theorem s85_l10 {q : ZQ} {d : Nat} (hL : zLay q) {t : Nat} (ht : zOb 9 t) : ∀ (n : Nat) (x2 : Int32) (M4 : ZI) (s3 : Slot), zX q (d + 3) 85 10 [.val (.ref t), .val (.int x2), s3] [] M4 (f85_l10 t n x2 M4) zEm := by
  intro n
  induction n with
  | zero => intros; exact zX_none
  | succ n ih =>
    intro x2 M4 s3
    rw [f85_l10]
    refine zX_iln1 (p := 11) d_85_10 rfl (zX_si (p := 14) d_85_11 cs_400 rfl ?_)
    refine zX_cge (p1 := 210) (p2 := 17) d_85_14 (by decide) rfl ?_ ?_
    · refine zX_ic (p := 211) d_85_210 ci_1 rfl ?_
      exact zX_retmb d_85_211 rt_85 (Or.inr rfl)
    · refine zX_aln0 (p := 18) d_85_17 rfl (zX_gi (p := 21) d_85_18 ow_85 gf_9_107 ht rfl (zX_ic (p := 22) d_85_21 ci_m1 rfl ?_))
      refine zX_ceq (p1 := 210) (p2 := 25) d_85_22 (by decide) rfl ?_ ?_
      · refine zX_ic (p := 211) d_85_210 ci_1 rfl ?_
        exact zX_retmb d_85_211 rt_85 (Or.inr rfl)
      · refine zX_aln0 (p := 26) d_85_25 rfl (zX_gi (p := 29) d_85_26 ow_85 gf_9_107 ht rfl (zX_si (p := 32) d_85_29 cs_273 rfl ?_))
        refine zX_ceq (p1 := 41) (p2 := 35) d_85_32 (by decide) rfl ?_ ?_
        · refine zX_aln0 (p := 42) d_85_41 rfl (zX_gr (p := 45) (b := (t + 15)) d_85_42 ow_85 gf_9_41 ht (zr_9_14 hL ht) rfl (zX_gi (p := 48) d_85_45 ow_85 gf_9_169 (zso_9_14 ht) rfl (zX_bi (p := 50) d_85_48 cb_12 rfl ?_)))
          refine zX_clt (p1 := 59) (p2 := 53) d_85_50 (by decide) rfl ?_ ?_
          · refine zX_aln0 (p := 60) d_85_59 rfl (zX_si (p := 63) d_85_60 cs_273 rfl (zX_aln0 (p := 64) d_85_63 rfl (zX_gr (p := 67) (b := (t + 15)) d_85_64 ow_85 gf_9_41 ht (zr_9_14 hL ht) rfl (zX_gr (p := 70) (b := (t + 16)) d_85_67 ow_85 gf_9_172 (zso_9_14 ht) (zr_6_0 hL (zso_9_14 ht)) rfl (zX_ic (p := 71) d_85_70 ci_0 rfl (zX_aln0 (p := 72) d_85_71 rfl (zX_gi (p := 75) d_85_72 ow_85 gf_9_55 ht rfl ?_)))))))
            refine zX_ic (p := 76) d_85_75 ci_1 rfl (zX_sub (p := 77) d_85_76 rfl (zX_cV4m (p := 80) ⟨ow_86, by decide, zdr_86⟩ ht d_85_77 ow_85 rs_9_175 kk_86 rfl (s86 hL ht (zAr_al (zsa_6_0 (zso_9_14 ht))).1) rfl rfl rfl rfl (fun v5 M6 => ?_)))
            try dsimp only
            refine zX_bind (σ := Unit) (β := Int32 × ZI) (pj := 184) (lj := fun (b : Int32 × ZI) (s : Unit) => [.val (.ref t), .val (.int x2), s3]) (sj := fun b => [.int b.1]) (mj := fun b => b.2) ?_ ?_
            · refine zX_zeq (p1 := 183) (p2 := 83) d_85_80 (by decide) rfl ?_ ?_
              · refine zX_ic (p := 184) d_85_183 ci_0 rfl ?_
                exact zX_leaf (fun _ _ h => h ())
              · refine zX_aln0 (p := 84) d_85_83 rfl (zX_si (p := 87) d_85_84 cs_274 rfl (zX_aln0 (p := 88) d_85_87 rfl (zX_gr (p := 91) (b := (t + 15)) d_85_88 ow_85 gf_9_41 ht (zr_9_14 hL ht) rfl (zX_gr (p := 94) (b := (t + 17)) d_85_91 ow_85 gf_9_179 (zso_9_14 ht) (zr_6_1 hL (zso_9_14 ht)) rfl (zX_ic (p := 95) d_85_94 ci_1 rfl (zX_bi (p := 97) d_85_95 cb_24 rfl (zX_cV4m (p := 100) ⟨ow_86, by decide, zdr_86⟩ ht d_85_97 ow_85 rs_9_175 kk_86 rfl (s86 hL ht (zAr_al (zsa_6_1 (zso_9_14 ht))).1) rfl rfl rfl rfl (fun v7 M8 => ?_))))))))
                try dsimp only
                refine zX_zeq (p1 := 183) (p2 := 103) d_85_100 (by decide) rfl ?_ ?_
                · refine zX_ic (p := 184) d_85_183 ci_0 rfl ?_
                  exact zX_leaf (fun _ _ h => h ())
                · refine zX_aln0 (p := 104) d_85_103 rfl (zX_si (p := 107) d_85_104 cs_275 rfl (zX_aln0 (p := 108) d_85_107 rfl (zX_gr (p := 111) (b := (t + 15)) d_85_108 ow_85 gf_9_41 ht (zr_9_14 hL ht) rfl (zX_gr (p := 114) (b := (t + 18)) d_85_111 ow_85 gf_9_182 (zso_9_14 ht) (zr_6_2 hL (zso_9_14 ht)) rfl (zX_ic (p := 115) d_85_114 ci_0 rfl (zX_bi (p := 117) d_85_115 cb_99 rfl (zX_cV4m (p := 120) ⟨ow_86, by decide, zdr_86⟩ ht d_85_117 ow_85 rs_9_175 kk_86 rfl (s86 hL ht (zAr_al (zsa_6_2 (zso_9_14 ht))).1) rfl rfl rfl rfl (fun v9 M10 => ?_))))))))
                  try dsimp only
                  refine zX_zeq (p1 := 183) (p2 := 123) d_85_120 (by decide) rfl ?_ ?_
                  · refine zX_ic (p := 184) d_85_183 ci_0 rfl ?_
                    exact zX_leaf (fun _ _ h => h ())
                  · refine zX_aln0 (p := 124) d_85_123 rfl (zX_si (p := 127) d_85_124 cs_276 rfl (zX_aln0 (p := 128) d_85_127 rfl (zX_gr (p := 131) (b := (t + 15)) d_85_128 ow_85 gf_9_41 ht (zr_9_14 hL ht) rfl (zX_gr (p := 134) (b := (t + 19)) d_85_131 ow_85 gf_9_185 (zso_9_14 ht) (zr_6_3 hL (zso_9_14 ht)) rfl (zX_ic (p := 135) d_85_134 ci_0 rfl (zX_bi (p := 137) d_85_135 cb_9 rfl (zX_cV4m (p := 140) ⟨ow_86, by decide, zdr_86⟩ ht d_85_137 ow_85 rs_9_175 kk_86 rfl (s86 hL ht (zAr_al (zsa_6_3 (zso_9_14 ht))).1) rfl rfl rfl rfl (fun v11 M12 => ?_))))))))
                    try dsimp only
                    refine zX_zeq (p1 := 183) (p2 := 143) d_85_140 (by decide) rfl ?_ ?_
                    · refine zX_ic (p := 184) d_85_183 ci_0 rfl ?_
                      exact zX_leaf (fun _ _ h => h ())
                    · refine zX_aln0 (p := 144) d_85_143 rfl (zX_si (p := 147) d_85_144 cs_277 rfl (zX_aln0 (p := 148) d_85_147 rfl (zX_gr (p := 151) (b := (t + 15)) d_85_148 ow_85 gf_9_41 ht (zr_9_14 hL ht) rfl (zX_gr (p := 154) (b := (t + 20)) d_85_151 ow_85 gf_9_188 (zso_9_14 ht) (zr_6_4 hL (zso_9_14 ht)) rfl (zX_ic (p := 155) d_85_154 ci_0 rfl (zX_bi (p := 157) d_85_155 cb_9 rfl (zX_cV4m (p := 160) ⟨ow_86, by decide, zdr_86⟩ ht d_85_157 ow_85 rs_9_175 kk_86 rfl (s86 hL ht (zAr_al (zsa_6_4 (zso_9_14 ht))).1) rfl rfl rfl rfl (fun v13 M14 => ?_))))))))
                      try dsimp only
                      refine zX_zeq (p1 := 183) (p2 := 163) d_85_160 (by decide) rfl ?_ ?_
                      · refine zX_ic (p := 184) d_85_183 ci_0 rfl ?_
                        exact zX_leaf (fun _ _ h => h ())
                      · refine zX_aln0 (p := 164) d_85_163 rfl (zX_cV0m (p := 167) ⟨ow_87, by decide, zdr_87⟩ ht d_85_164 ow_85 rs_9_191 kk_87 rfl (s87 hL ht) rfl rfl rfl rfl (fun v15 M16 => ?_))
                        try dsimp only
                        refine zX_zeq (p1 := 183) (p2 := 170) d_85_167 (by decide) rfl ?_ ?_
                        · refine zX_ic (p := 184) d_85_183 ci_0 rfl ?_
                          exact zX_leaf (fun _ _ h => h ())
                        · refine zX_aln0 (p := 171) d_85_170 rfl (zX_bi (p := 173) d_85_171 cb_59 rfl (zX_cV1m (p := 176) ⟨ow_78, by decide, zdr_78⟩ ht d_85_173 ow_85 rs_9_140 kk_78 rfl (s78 hL ht) rfl rfl rfl rfl (fun v17 M18 => ?_)))
                          try dsimp only
                          refine zX_zeq (p1 := 183) (p2 := 179) d_85_176 (by decide) rfl ?_ ?_
                          · refine zX_ic (p := 184) d_85_183 ci_0 rfl ?_
                            exact zX_leaf (fun _ _ h => h ())
                          · refine zX_ic (p := 180) d_85_179 ci_1 rfl (zX_goto (p := 184) d_85_180 (by decide) ?_)
                            exact zX_leaf (fun _ _ h => h ())
            · rintro ⟨v19, M20⟩ _
              try dsimp only
              refine zX_isn2 (p := 185) d_85_184 rfl (zX_iln2 (p := 186) d_85_185 rfl ?_)
              refine zX_zne (p1 := 191) (p2 := 189) d_85_186 (by decide) rfl ?_ ?_
              · refine zX_aln0 (p := 192) d_85_191 rfl (zX_gr (p := 195) (b := (t + 15)) d_85_192 ow_85 gf_9_41 ht (zr_9_14 hL ht) rfl (zX_dup (p := 196) d_85_195 rfl rfl (zX_gi (p := 199) d_85_196 ow_85 gf_9_169 (zso_9_14 ht) rfl (zX_ic (p := 200) d_85_199 ci_1 rfl (zX_add (p := 201) d_85_200 rfl (zX_pi (p := 204) d_85_201 ow_85 gf_9_169 (zso_9_14 ht) rfl (fun M21 => ?_)))))))
                refine zX_ii1 (p := 207) d_85_204 ci_1 rfl (zX_goto (p := 10) d_85_207 (by decide) ?_)
                exact ih (x2 + (1 : Int32)) M21 (.val (.int v19))
              · refine zX_ic (p := 190) d_85_189 ci_0 rfl ?_
                exact zX_retmb d_85_190 rt_85 (Or.inl rfl)
          · refine zX_aln0 (p := 54) d_85_53 rfl (zX_ic (p := 55) d_85_54 ci_3 rfl (zX_cV1m (p := 58) ⟨ow_70, by decide, zdr_70⟩ ht d_85_55 ow_85 rs_9_113 kk_70 rfl (s70 hL ht) rfl rfl rfl rfl (fun v22 M23 => ?_)))
            try dsimp only
            exact zX_retmg d_85_58 rt_85
        · refine zX_aln0 (p := 36) d_85_35 rfl (zX_ic (p := 37) d_85_36 ci_1 rfl (zX_cV1m (p := 40) ⟨ow_70, by decide, zdr_70⟩ ht d_85_37 ow_85 rs_9_113 kk_70 rfl (s70 hL ht) rfl rfl rfl rfl (fun v24 M25 => ?_)))
          try dsimp only
          exact zX_retmg d_85_40 rt_85

theorem s85 {q : ZQ} {d : Nat} (hL : zLay q) {t : Nat} {M : ZI} (ht : zOb 9 t) : zX q (d + 3) 85 0 [.val (.ref t), .unset, .unset] [] M (f85_readWorks t M) zEm := by
  unfold f85_readWorks
  refine zX_aln0 (p := 1) d_85_0 rfl (zX_gr (p := 4) (b := (t + 15)) d_85_1 ow_85 gf_9_41 ht (zr_9_14 hL ht) rfl (zX_ic (p := 5) d_85_4 ci_0 rfl (zX_pi (p := 8) d_85_5 ow_85 gf_9_169 (zso_9_14 ht) rfl (fun M1 => ?_))))
  refine zX_ic (p := 9) d_85_8 ci_0 rfl (zX_isn1 (p := 10) d_85_9 rfl ?_)
  exact s85_l10 hL ht zfu (0 : Int32) M1 (.unset)

theorem s88 {q : ZQ} {d : Nat} (hL : zLay q) {t : Nat} {a1 : Nat} {M : ZI} (ht : zOb 6 t) (ha1 : zOb 6 a1) : zX q d 88 0 [.val (.ref t), .val (.ref a1)] [] M (f88_copy t a1 M) zEv := by
  unfold f88_copy
  refine zX_aln1 (p := 1) d_88_0 rfl (zX_gr (p := 4) (b := (a1 + 1)) d_88_1 ow_88 gf_6_9 ha1 (zr_6_0 hL ha1) rfl (zX_ic (p := 5) d_88_4 ci_0 rfl (zX_aln0 (p := 6) d_88_5 rfl (zX_gr (p := 9) (b := (t + 1)) d_88_6 ow_88 gf_6_9 ht (zr_6_0 hL ht) rfl (zX_ic (p := 10) d_88_9 ci_0 rfl (zX_bi (p := 12) d_88_10 cb_12 rfl (zX_cpy (p := 15) d_88_12 ow_88 rs_6_33 (zsa_6_0 ht) (zsa_6_0 ha1) ⟨by decide, by decide, by decide⟩ ⟨by decide, by decide, by decide⟩ ⟨by decide, by decide⟩ rfl rfl (fun M1 => ?_))))))))
  refine zX_aln1 (p := 16) d_88_15 rfl (zX_gr (p := 19) (b := (a1 + 2)) d_88_16 ow_88 gf_6_15 ha1 (zr_6_1 hL ha1) rfl (zX_ic (p := 20) d_88_19 ci_0 rfl (zX_aln0 (p := 21) d_88_20 rfl (zX_gr (p := 24) (b := (t + 2)) d_88_21 ow_88 gf_6_15 ht (zr_6_1 hL ht) rfl (zX_ic (p := 25) d_88_24 ci_0 rfl (zX_bi (p := 27) d_88_25 cb_12 rfl (zX_cpy (p := 30) d_88_27 ow_88 rs_6_33 (zsa_6_1 ht) (zsa_6_1 ha1) ⟨by decide, by decide, by decide⟩ ⟨by decide, by decide, by decide⟩ ⟨by decide, by decide⟩ rfl rfl (fun M2 => ?_))))))))
  refine zX_aln1 (p := 31) d_88_30 rfl (zX_gr (p := 34) (b := (a1 + 3)) d_88_31 ow_88 gf_6_18 ha1 (zr_6_2 hL ha1) rfl (zX_ic (p := 35) d_88_34 ci_0 rfl (zX_aln0 (p := 36) d_88_35 rfl (zX_gr (p := 39) (b := (t + 3)) d_88_36 ow_88 gf_6_18 ht (zr_6_2 hL ht) rfl (zX_ic (p := 40) d_88_39 ci_0 rfl (zX_bi (p := 42) d_88_40 cb_12 rfl (zX_cpy (p := 45) d_88_42 ow_88 rs_6_33 (zsa_6_2 ht) (zsa_6_2 ha1) ⟨by decide, by decide, by decide⟩ ⟨by decide, by decide, by decide⟩ ⟨by decide, by decide⟩ rfl rfl (fun M3 => ?_))))))))
  refine zX_aln1 (p := 46) d_88_45 rfl (zX_gr (p := 49) (b := (a1 + 4)) d_88_46 ow_88 gf_6_21 ha1 (zr_6_3 hL ha1) rfl (zX_ic (p := 50) d_88_49 ci_0 rfl (zX_aln0 (p := 51) d_88_50 rfl (zX_gr (p := 54) (b := (t + 4)) d_88_51 ow_88 gf_6_21 ht (zr_6_3 hL ht) rfl (zX_ic (p := 55) d_88_54 ci_0 rfl (zX_bi (p := 57) d_88_55 cb_12 rfl (zX_cpy (p := 60) d_88_57 ow_88 rs_6_33 (zsa_6_3 ht) (zsa_6_3 ha1) ⟨by decide, by decide, by decide⟩ ⟨by decide, by decide, by decide⟩ ⟨by decide, by decide⟩ rfl rfl (fun M4 => ?_))))))))
  refine zX_aln1 (p := 61) d_88_60 rfl (zX_gr (p := 64) (b := (a1 + 5)) d_88_61 ow_88 gf_6_24 ha1 (zr_6_4 hL ha1) rfl (zX_ic (p := 65) d_88_64 ci_0 rfl (zX_aln0 (p := 66) d_88_65 rfl (zX_gr (p := 69) (b := (t + 5)) d_88_66 ow_88 gf_6_24 ht (zr_6_4 hL ht) rfl (zX_ic (p := 70) d_88_69 ci_0 rfl (zX_bi (p := 72) d_88_70 cb_12 rfl (zX_cpy (p := 75) d_88_72 ow_88 rs_6_33 (zsa_6_4 ht) (zsa_6_4 ha1) ⟨by decide, by decide, by decide⟩ ⟨by decide, by decide, by decide⟩ ⟨by decide, by decide⟩ rfl rfl (fun M5 => ?_))))))))
  refine zX_aln1 (p := 76) d_88_75 rfl (zX_gr (p := 79) (b := (a1 + 6)) d_88_76 ow_88 gf_6_27 ha1 (zr_6_5 hL ha1) rfl (zX_ic (p := 80) d_88_79 ci_0 rfl (zX_aln0 (p := 81) d_88_80 rfl (zX_gr (p := 84) (b := (t + 6)) d_88_81 ow_88 gf_6_27 ht (zr_6_5 hL ht) rfl (zX_ic (p := 85) d_88_84 ci_0 rfl (zX_bi (p := 87) d_88_85 cb_12 rfl (zX_cpy (p := 90) d_88_87 ow_88 rs_6_33 (zsa_6_5 ht) (zsa_6_5 ha1) ⟨by decide, by decide, by decide⟩ ⟨by decide, by decide, by decide⟩ ⟨by decide, by decide⟩ rfl rfl (fun M6 => ?_))))))))
  refine zX_aln0 (p := 91) d_88_90 rfl (zX_aln1 (p := 92) d_88_91 rfl (zX_gi (p := 95) d_88_92 ow_88 gf_6_39 ha1 rfl (zX_pi (p := 98) d_88_95 ow_88 gf_6_39 ht rfl (fun M7 => ?_))))
  exact zX_retv d_88_98 rt_88

theorem s89 {q : ZQ} {d : Nat} (hL : zLay q) {t : Nat} {M : ZI} (ht : zOb 9 t) : zX q (d + 75) 89 0 [.val (.ref t)] [] M (f89_readCouncil t M) zEm := by
  unfold f89_readCouncil
  refine zX_aln0 (p := 1) d_89_0 rfl (zX_gr (p := 4) (b := (t + 23)) d_89_1 ow_89 gf_9_48 ht (zr_9_15 hL ht) rfl (zX_ic (p := 5) d_89_4 ci_0 rfl (zX_pi (p := 8) d_89_5 ow_89 gf_9_146 (zso_9_15 ht) rfl (fun M1 => ?_))))
  refine zX_aln0 (p := 9) d_89_8 rfl (zX_gr (p := 12) (b := (t + 23)) d_89_9 ow_89 gf_9_48 ht (zr_9_15 hL ht) rfl (zX_gr (p := 15) (b := (t + 24)) d_89_12 ow_89 gf_9_149 (zso_9_15 ht) (zr_7_0 hL (zso_9_15 ht)) rfl (zX_ic (p := 16) d_89_15 ci_0 rfl (zX_pi (p := 19) d_89_16 ow_89 gf_9_127 (zso_7_0 (zso_9_15 ht)) rfl (fun M2 => ?_)))))
  refine zX_aln0 (p := 20) d_89_19 rfl (zX_gi (p := 23) d_89_20 ow_89 gf_9_107 ht rfl (zX_ic (p := 24) d_89_23 ci_m1 rfl ?_))
  refine zX_cne (p1 := 29) (p2 := 27) d_89_24 (by decide) rfl ?_ ?_
  · refine zX_aln0 (p := 30) d_89_29 rfl (zX_aln0 (p := 31) d_89_30 rfl (zX_gr (p := 34) (b := (t + 23)) d_89_31 ow_89 gf_9_48 ht (zr_9_15 hL ht) rfl (zX_gr (p := 37) (b := (t + 24)) d_89_34 ow_89 gf_9_149 (zso_9_15 ht) (zr_7_0 hL (zso_9_15 ht)) rfl (zX_ic (p := 38) d_89_37 ci_1 rfl (zX_ic (p := 39) d_89_38 ci_0 rfl (zX_cV3m (p := 42) ⟨ow_76, by decide, zdr_76⟩ ht d_89_39 ow_89 rs_9_136 kk_76 rfl (s76 hL ht (zso_7_0 (zso_9_15 ht))) rfl rfl rfl rfl (fun v3 M4 => ?_)))))))
    try dsimp only
    refine zX_zeq (p1 := 57) (p2 := 45) d_89_42 (by decide) rfl ?_ ?_
    · refine zX_ic (p := 58) d_89_57 ci_0 rfl ?_
      exact zX_retmb d_89_58 rt_89 (Or.inl rfl)
    · refine zX_aln0 (p := 46) d_89_45 rfl (zX_ic (p := 47) d_89_46 ci_m1 rfl (zX_cV1m (p := 50) ⟨ow_78, by decide, zdr_78⟩ ht d_89_47 ow_89 rs_9_140 kk_78 rfl (s78 hL ht) rfl rfl rfl rfl (fun v5 M6 => ?_)))
      try dsimp only
      refine zX_zeq (p1 := 57) (p2 := 53) d_89_50 (by decide) rfl ?_ ?_
      · refine zX_ic (p := 58) d_89_57 ci_0 rfl ?_
        exact zX_retmb d_89_58 rt_89 (Or.inl rfl)
      · refine zX_ic (p := 54) d_89_53 ci_1 rfl (zX_goto (p := 58) d_89_54 (by decide) ?_)
        exact zX_retmb d_89_58 rt_89 (Or.inr rfl)
  · refine zX_ic (p := 28) d_89_27 ci_1 rfl ?_
    exact zX_retmb d_89_28 rt_89 (Or.inr rfl)

theorem s90 {q : ZQ} {d : Nat} (hL : zLay q) {t : Nat} {a1 : Nat} {M : ZI} (ht : zOb 7 t) (ha1 : zOb 7 a1) : zX q (d + 1) 90 0 [.val (.ref t), .val (.ref a1)] [] M (f90_copy t a1 M) zEv := by
  unfold f90_copy
  refine zX_aln0 (p := 1) d_90_0 rfl (zX_gr (p := 4) (b := (t + 1)) d_90_1 ow_90 gf_7_10 ht (zr_7_0 hL ht) rfl (zX_aln1 (p := 5) d_90_4 rfl (zX_gr (p := 8) (b := (a1 + 1)) d_90_5 ow_90 gf_7_10 ha1 (zr_7_0 hL ha1) rfl (zX_cV1v (p := 11) ⟨ow_82, by decide, zdr_82⟩ (zso_7_0 ht) d_90_8 ow_90 rs_7_16 kk_82 rfl (s82 hL (zso_7_0 ht) (zso_7_0 ha1)) rfl rfl rfl rfl (fun M1 => ?_)))))
  refine zX_aln0 (p := 12) d_90_11 rfl (zX_aln1 (p := 13) d_90_12 rfl (zX_gi (p := 16) d_90_13 ow_90 gf_7_20 ha1 rfl (zX_pi (p := 19) d_90_16 ow_90 gf_7_20 ht rfl (fun M2 => ?_))))
  exact zX_retv d_90_19 rt_90

theorem s52 {q : ZQ} {d : Nat} (hL : zLay q) {a1 : Int32} {M : ZI} : zX q (d + 76) 52 0 [.val (.ref 0), .val (.int a1)] [] M (f52_text a1 M) zEm := by
  unfold f52_text
  refine zX_aln0 (p := 1) d_52_0 rfl (zX_gr (p := 4) (b := 119) d_52_1 ow_52 gf_0_44 zo_0 (zr_0_7 hL zo_0) rfl (zX_aln0 (p := 5) d_52_4 rfl (zX_gr (p := 8) (b := 1) d_52_5 ow_52 gf_0_10 zo_0 (zr_0_0 hL zo_0) rfl (zX_gi (p := 11) d_52_8 ow_52 gf_0_65 zo_1 rfl (zX_cV1v (p := 14) ⟨ow_53, by decide, zdr_53⟩ zo_119 d_52_11 ow_52 rs_0_128 kk_53 rfl (s53 hL zo_119) rfl rfl rfl rfl (fun M1 => ?_))))))
  refine zX_iln1 (p := 15) d_52_14 rfl ?_
  refine zX_ite (fun hs15_0 => ?_) (fun hs15_0 => ?_)
  · refine zX_tsh (p := 44) (n := 0) d_52_15 hs15_0 (by decide) (by decide) (by decide) rfl (by decide) ?_
    refine zX_aln0 (p := 45) d_52_44 rfl (zX_gr (p := 48) (b := 119) d_52_45 ow_52 gf_0_44 zo_0 (zr_0_7 hL zo_0) rfl (zX_cV0m (p := 51) ⟨ow_69, by decide, zdr_69⟩ zo_119 d_52_48 ow_52 rs_0_131 kk_69 rfl (s69 hL zo_119) rfl rfl rfl rfl (fun v2 M3 => ?_)))
    try dsimp only
    refine zX_zne (p1 := 56) (p2 := 54) d_52_51 (by decide) rfl ?_ ?_
    · refine zX_aln0 (p := 57) d_52_56 rfl (zX_gr (p := 60) (b := 1) d_52_57 ow_52 gf_0_10 zo_0 (zr_0_0 hL zo_0) rfl (zX_gr (p := 63) (b := 12) d_52_60 ow_52 gf_0_135 zo_1 (zr_1_2 hL zo_1) rfl (zX_aln0 (p := 64) d_52_63 rfl (zX_gr (p := 67) (b := 119) d_52_64 ow_52 gf_0_44 zo_0 (zr_0_7 hL zo_0) rfl (zX_gr (p := 70) (b := 124) d_52_67 ow_52 gf_0_139 zo_119 (zr_9_12 hL zo_119) rfl (zX_cV1v (p := 73) ⟨ow_81, by decide, zdr_81⟩ zo_12 d_52_70 ow_52 rs_0_140 kk_81 rfl (s81 hL zo_12 zo_124) rfl rfl rfl rfl (fun M4 => ?_)))))))
      refine zX_aln0 (p := 74) d_52_73 rfl (zX_gr (p := 77) (b := 1) d_52_74 ow_52 gf_0_10 zo_0 (zr_0_0 hL zo_0) rfl (zX_gr (p := 80) (b := 12) d_52_77 ow_52 gf_0_135 zo_1 (zr_1_2 hL zo_1) rfl (zX_gi (p := 83) d_52_80 ow_52 gf_0_146 zo_12 rfl ?_)))
      exact zX_retm d_52_83 rt_52
    · refine zX_ic (p := 55) d_52_54 ci_m1 rfl ?_
      exact zX_retm d_52_55 rt_52
  refine zX_ite (fun hs15_1 => ?_) (fun hs15_1 => ?_)
  · refine zX_tsh (p := 84) (n := 1) d_52_15 hs15_1 (by decide) (by decide) (by decide) rfl (by decide) ?_
    refine zX_aln0 (p := 85) d_52_84 rfl (zX_gr (p := 88) (b := 119) d_52_85 ow_52 gf_0_44 zo_0 (zr_0_7 hL zo_0) rfl (zX_cV0m (p := 91) ⟨ow_83, by decide, zdr_83⟩ zo_119 d_52_88 ow_52 rs_0_149 kk_83 rfl (s83 hL zo_119) rfl rfl rfl rfl (fun v5 M6 => ?_)))
    try dsimp only
    refine zX_zne (p1 := 96) (p2 := 94) d_52_91 (by decide) rfl ?_ ?_
    · refine zX_aln0 (p := 97) d_52_96 rfl (zX_cV0v (p := 100) ⟨ow_11, by decide, zdr_11⟩ zo_0 d_52_97 ow_52 rs_0_58 kk_11 rfl (s11 hL) rfl rfl rfl rfl (fun M7 => ?_))
      refine zX_aln0 (p := 101) d_52_100 rfl (zX_gr (p := 104) (b := 119) d_52_101 ow_52 gf_0_44 zo_0 (zr_0_7 hL zo_0) rfl (zX_gr (p := 107) (b := 133) d_52_104 ow_52 gf_0_152 zo_119 (zr_9_13 hL zo_119) rfl (zX_ic (p := 108) d_52_107 ci_0 rfl (zX_aln0 (p := 109) d_52_108 rfl (zX_gr (p := 112) (b := 1) d_52_109 ow_52 gf_0_10 zo_0 (zr_0_0 hL zo_0) rfl (zX_gr (p := 115) (b := 39) d_52_112 ow_52 gf_0_155 zo_1 (zr_1_8 hL zo_1) rfl (zX_ic (p := 116) d_52_115 ci_0 rfl ?_)))))))
      refine zX_bi (p := 118) d_52_116 cb_10 rfl (zX_cpy (p := 121) d_52_118 ow_52 rs_0_156 za_39 za_133 ⟨by decide, by decide, by decide⟩ ⟨by decide, by decide, by decide⟩ ⟨by decide, by decide⟩ rfl rfl (fun M8 => ?_))
      refine zX_aln0 (p := 122) d_52_121 rfl (zX_gr (p := 125) (b := 1) d_52_122 ow_52 gf_0_10 zo_0 (zr_0_0 hL zo_0) rfl (zX_cV0i (p := 128) ⟨ow_84, by decide, zdr_84⟩ zo_1 d_52_125 ow_52 rs_0_162 kk_84 rfl (s84 hL zo_1) rfl rfl rfl rfl (fun v9 => ?_)))
      exact zX_retm d_52_128 rt_52
    · refine zX_ic (p := 95) d_52_94 ci_m1 rfl ?_
      exact zX_retm d_52_95 rt_52
  refine zX_ite (fun hs15_2 => ?_) (fun hs15_2 => ?_)
  · refine zX_tsh (p := 129) (n := 2) d_52_15 hs15_2 (by decide) (by decide) (by decide) rfl (by decide) ?_
    refine zX_aln0 (p := 130) d_52_129 rfl (zX_gr (p := 133) (b := 119) d_52_130 ow_52 gf_0_44 zo_0 (zr_0_7 hL zo_0) rfl (zX_cV0m (p := 136) ⟨ow_85, by decide, zdr_85⟩ zo_119 d_52_133 ow_52 rs_0_166 kk_85 rfl (s85 hL zo_119) rfl rfl rfl rfl (fun v10 M11 => ?_)))
    try dsimp only
    refine zX_zne (p1 := 141) (p2 := 139) d_52_136 (by decide) rfl ?_ ?_
    · refine zX_aln0 (p := 142) d_52_141 rfl (zX_cV0v (p := 145) ⟨ow_11, by decide, zdr_11⟩ zo_0 d_52_142 ow_52 rs_0_58 kk_11 rfl (s11 hL) rfl rfl rfl rfl (fun M12 => ?_))
      refine zX_aln0 (p := 146) d_52_145 rfl (zX_gr (p := 149) (b := 1) d_52_146 ow_52 gf_0_10 zo_0 (zr_0_0 hL zo_0) rfl (zX_gr (p := 152) (b := 21) d_52_149 ow_52 gf_0_169 zo_1 (zr_1_3 hL zo_1) rfl (zX_aln0 (p := 153) d_52_152 rfl (zX_gr (p := 156) (b := 119) d_52_153 ow_52 gf_0_44 zo_0 (zr_0_7 hL zo_0) rfl (zX_gr (p := 159) (b := 134) d_52_156 ow_52 gf_0_173 zo_119 (zr_9_14 hL zo_119) rfl (zX_cV1v (p := 162) ⟨ow_88, by decide, zdr_88⟩ zo_21 d_52_159 ow_52 rs_0_174 kk_88 rfl (s88 hL zo_21 zo_134) rfl rfl rfl rfl (fun M13 => ?_)))))))
      refine zX_aln0 (p := 163) d_52_162 rfl (zX_gr (p := 166) (b := 1) d_52_163 ow_52 gf_0_10 zo_0 (zr_0_0 hL zo_0) rfl (zX_gr (p := 169) (b := 2) d_52_166 ow_52 gf_0_52 zo_1 (zr_1_0 hL zo_1) rfl (zX_ic (p := 170) d_52_169 ci_0 rfl (zX_pi (p := 173) d_52_170 ow_52 gf_0_179 zo_2 rfl (fun M14 => ?_)))))
      refine zX_aln0 (p := 174) d_52_173 rfl (zX_gr (p := 177) (b := 1) d_52_174 ow_52 gf_0_10 zo_0 (zr_0_0 hL zo_0) rfl (zX_gr (p := 180) (b := 21) d_52_177 ow_52 gf_0_169 zo_1 (zr_1_3 hL zo_1) rfl (zX_gi (p := 183) d_52_180 ow_52 gf_0_182 zo_21 rfl ?_)))
      exact zX_retm d_52_183 rt_52
    · refine zX_ic (p := 140) d_52_139 ci_m1 rfl ?_
      exact zX_retm d_52_140 rt_52
  refine zX_ite (fun hs15_3 => ?_) (fun hs15_3 => ?_)
  · refine zX_tsh (p := 184) (n := 3) d_52_15 hs15_3 (by decide) (by decide) (by decide) rfl (by decide) ?_
    refine zX_aln0 (p := 185) d_52_184 rfl (zX_gr (p := 188) (b := 119) d_52_185 ow_52 gf_0_44 zo_0 (zr_0_7 hL zo_0) rfl (zX_cV0m (p := 191) ⟨ow_89, by decide, zdr_89⟩ zo_119 d_52_188 ow_52 rs_0_185 kk_89 rfl (s89 hL zo_119) rfl rfl rfl rfl (fun v15 M16 => ?_)))
    try dsimp only
    refine zX_zne (p1 := 196) (p2 := 194) d_52_191 (by decide) rfl ?_ ?_
    · refine zX_aln0 (p := 197) d_52_196 rfl (zX_gr (p := 200) (b := 1) d_52_197 ow_52 gf_0_10 zo_0 (zr_0_0 hL zo_0) rfl (zX_gr (p := 203) (b := 29) d_52_200 ow_52 gf_0_188 zo_1 (zr_1_4 hL zo_1) rfl (zX_aln0 (p := 204) d_52_203 rfl (zX_gr (p := 207) (b := 119) d_52_204 ow_52 gf_0_44 zo_0 (zr_0_7 hL zo_0) rfl (zX_gr (p := 210) (b := 142) d_52_207 ow_52 gf_0_192 zo_119 (zr_9_15 hL zo_119) rfl (zX_cV1v (p := 213) ⟨ow_90, by decide, zdr_90⟩ zo_29 d_52_210 ow_52 rs_0_193 kk_90 rfl (s90 hL zo_29 zo_142) rfl rfl rfl rfl (fun M17 => ?_)))))))
      refine zX_aln0 (p := 214) d_52_213 rfl (zX_gr (p := 217) (b := 1) d_52_214 ow_52 gf_0_10 zo_0 (zr_0_0 hL zo_0) rfl (zX_gr (p := 220) (b := 29) d_52_217 ow_52 gf_0_188 zo_1 (zr_1_4 hL zo_1) rfl (zX_gi (p := 223) d_52_220 ow_52 gf_0_198 zo_29 rfl ?_)))
      exact zX_retm d_52_223 rt_52
    · refine zX_ic (p := 195) d_52_194 ci_m1 rfl ?_
      exact zX_retm d_52_195 rt_52
  have hz15 : (a1 : Int32).toInt < 0 ∨ 3 < (a1 : Int32).toInt := by
    have := zne_i (n := 0) (by decide) hs15_0
    have := zne_i (n := 1) (by decide) hs15_1
    have := zne_i (n := 2) (by decide) hs15_2
    have := zne_i (n := 3) (by decide) hs15_3
    omega
  refine zX_tsd (p := 224) d_52_15 hz15 (by decide) ?_
  refine zX_ic (p := 225) d_52_224 ci_m1 rfl ?_
  exact zX_retm d_52_225 rt_52

theorem s93_l4 {q : ZQ} {d : Nat} (hL : zLay q) {a1 : Int32} : ∀ (n : Nat) (x1 : Int32) (x2 : Int32) (M3 : ZI), zX q (d + 5) 93 4 [.val (.ref 0), .val (.int a1), .val (.int x1), .val (.int x2)] [] M3 (f93_l4 a1 n x1 x2 M3) (zEj q (d + 5) 93 56 (fun (b : Int32 × ZI) (s : Slot) => [.val (.ref 0), .val (.int a1), .val (.int b.1), s]) (fun b => []) (fun b => b.2)) := by
  intro n
  induction n with
  | zero => intros; exact zX_none
  | succ n ih =>
    intro x1 x2 M3
    rw [f93_l4]
    refine zX_iln3 (p := 5) d_93_4 rfl (zX_aln0 (p := 6) d_93_5 rfl (zX_gr (p := 9) (b := 1) d_93_6 ow_93 gf_0_10 zo_0 (zr_0_0 hL zo_0) rfl (zX_gi (p := 12) d_93_9 ow_93 gf_0_65 zo_1 rfl ?_)))
    refine zX_cge (p1 := 56) (p2 := 15) d_93_12 (by decide) rfl ?_ ?_
    · exact zX_leaf (fun _ _ h => h (.val (.int x2)))
    · refine zX_aln0 (p := 16) d_93_15 rfl (zX_gr (p := 19) (b := 1) d_93_16 ow_93 gf_0_10 zo_0 (zr_0_0 hL zo_0) rfl (zX_gr (p := 22) (b := 39) d_93_19 ow_93 gf_0_155 zo_1 (zr_1_8 hL zo_1) rfl (zX_iln3 (p := 23) d_93_22 rfl (zX_iag (p := 24) d_93_23 za_39 rfl (zX_iln1 (p := 25) d_93_24 rfl ?_)))))
      refine zX_cne (p1 := 50) (p2 := 28) d_93_25 (by decide) rfl ?_ ?_
      · refine zX_ii3 (p := 53) d_93_50 ci_1 rfl (zX_goto (p := 4) d_93_53 (by decide) ?_)
        exact ih x1 (x2 + (1 : Int32)) M3
      · refine zX_iln2 (p := 29) d_93_28 rfl (zX_aln0 (p := 30) d_93_29 rfl (zX_gr (p := 33) (b := 1) d_93_30 ow_93 gf_0_10 zo_0 (zr_0_0 hL zo_0) rfl (zX_aln0 (p := 34) d_93_33 rfl (zX_gr (p := 37) (b := 1) d_93_34 ow_93 gf_0_10 zo_0 (zr_0_0 hL zo_0) rfl (zX_gr (p := 40) (b := 2) d_93_37 ow_93 gf_0_52 zo_1 (zr_1_0 hL zo_1) rfl (zX_si (p := 43) d_93_40 cs_256 rfl (zX_iln3 (p := 44) d_93_43 rfl ?_)))))))
        refine zX_ic (p := 45) d_93_44 ci_0 rfl (zX_cV4m (p := 48) ⟨ow_27, by decide, zdr_27⟩ zo_1 d_93_45 ow_93 rs_0_213 kk_27 rfl (s27 hL zo_1 zo_2) rfl rfl rfl rfl (fun v4 M5 => ?_))
        try dsimp only
        refine zX_add (p := 49) d_93_48 rfl (zX_jsn2 (p := 50) d_93_49 rfl (fun x6 => ?_))
        refine zX_ii3 (p := 53) d_93_50 ci_1 rfl (zX_goto (p := 4) d_93_53 (by decide) ?_)
        exact ih x6 (x2 + (1 : Int32)) M5

theorem s93 {q : ZQ} {d : Nat} (hL : zLay q) {a1 : Int32} {M : ZI} : zX q (d + 5) 93 0 [.val (.ref 0), .val (.int a1), .unset, .unset] [] M (f93_weightsNaming a1 M) zEm := by
  unfold f93_weightsNaming
  refine zX_ic (p := 1) d_93_0 ci_0 rfl (zX_isn2 (p := 2) d_93_1 rfl (zX_ic (p := 3) d_93_2 ci_0 rfl (zX_isn3 (p := 4) d_93_3 rfl ?_)))
  refine zX_bind (s93_l4 hL zfu (0 : Int32) (0 : Int32) M) ?_
  rintro ⟨x7, M8⟩ s9
  try dsimp only
  refine zX_iln2 (p := 57) d_93_56 rfl ?_
  exact zX_retm d_93_57 rt_93

theorem s92 {q : ZQ} {d : Nat} (hL : zLay q) {a1 : Int32} {a2 : Int32} {M : ZI} : zX q (d + 6) 92 0 [.val (.ref 0), .val (.int a1), .val (.int a2)] [] M (f92_of a1 a2 M) zEm := by
  unfold f92_of
  refine zX_aln0 (p := 1) d_92_0 rfl (zX_gr (p := 4) (b := 1) d_92_1 ow_92 gf_0_10 zo_0 (zr_0_0 hL zo_0) rfl (zX_iln1 (p := 5) d_92_4 rfl (zX_cV1i (p := 8) ⟨ow_17, by decide, zdr_17⟩ zo_1 d_92_5 ow_92 rs_0_94 kk_17 rfl (s17 hL zo_1) rfl rfl rfl rfl (fun v1 => ?_))))
  refine zX_zne (p1 := 14) (p2 := 11) d_92_8 (by decide) rfl ?_ ?_
  · refine zX_iln2 (p := 15) d_92_14 rfl ?_
    refine zX_ite (fun hs15_0 => ?_) (fun hs15_0 => ?_)
    · refine zX_tsh (p := 64) (n := 0) d_92_15 hs15_0 (by decide) (by decide) (by decide) rfl (by decide) ?_
      refine zX_aln0 (p := 65) d_92_64 rfl (zX_gr (p := 68) (b := 1) d_92_65 ow_92 gf_0_10 zo_0 (zr_0_0 hL zo_0) rfl (zX_gr (p := 71) (b := 2) d_92_68 ow_92 gf_0_52 zo_1 (zr_1_0 hL zo_1) rfl (zX_gr (p := 74) (b := 3) d_92_71 ow_92 gf_0_91 zo_2 (zr_2_0 hL zo_2) rfl (zX_iln1 (p := 75) d_92_74 rfl (zX_iag (p := 76) d_92_75 za_3 rfl ?_)))))
      exact zX_retm d_92_76 rt_92
    refine zX_ite (fun hs15_1 => ?_) (fun hs15_1 => ?_)
    · refine zX_tsh (p := 77) (n := 1) d_92_15 hs15_1 (by decide) (by decide) (by decide) rfl (by decide) ?_
      refine zX_aln0 (p := 78) d_92_77 rfl (zX_gr (p := 81) (b := 1) d_92_78 ow_92 gf_0_10 zo_0 (zr_0_0 hL zo_0) rfl (zX_gr (p := 84) (b := 37) d_92_81 ow_92 gf_0_84 zo_1 (zr_1_6 hL zo_1) rfl (zX_iln1 (p := 85) d_92_84 rfl (zX_iag (p := 86) d_92_85 za_37 rfl ?_))))
      exact zX_retm d_92_86 rt_92
    refine zX_ite (fun hs15_2 => ?_) (fun hs15_2 => ?_)
    · refine zX_tsh (p := 87) (n := 2) d_92_15 hs15_2 (by decide) (by decide) (by decide) rfl (by decide) ?_
      refine zX_aln0 (p := 88) d_92_87 rfl (zX_gr (p := 91) (b := 1) d_92_88 ow_92 gf_0_10 zo_0 (zr_0_0 hL zo_0) rfl (zX_gr (p := 94) (b := 38) d_92_91 ow_92 gf_0_88 zo_1 (zr_1_7 hL zo_1) rfl (zX_iln1 (p := 95) d_92_94 rfl (zX_iag (p := 96) d_92_95 za_38 rfl ?_))))
      exact zX_retm d_92_96 rt_92
    refine zX_ite (fun hs15_3 => ?_) (fun hs15_3 => ?_)
    · refine zX_tsh (p := 97) (n := 3) d_92_15 hs15_3 (by decide) (by decide) (by decide) rfl (by decide) ?_
      refine zX_aln0 (p := 98) d_92_97 rfl (zX_gr (p := 101) (b := 1) d_92_98 ow_92 gf_0_10 zo_0 (zr_0_0 hL zo_0) rfl (zX_gr (p := 104) (b := 2) d_92_101 ow_92 gf_0_52 zo_1 (zr_1_0 hL zo_1) rfl (zX_gr (p := 107) (b := 4) d_92_104 ow_92 gf_0_207 zo_2 (zr_2_1 hL zo_2) rfl (zX_iln1 (p := 108) d_92_107 rfl (zX_iag (p := 109) d_92_108 za_4 rfl ?_)))))
      exact zX_retm d_92_109 rt_92
    refine zX_ite (fun hs15_4 => ?_) (fun hs15_4 => ?_)
    · refine zX_tsh (p := 110) (n := 4) d_92_15 hs15_4 (by decide) (by decide) (by decide) rfl (by decide) ?_
      refine zX_aln0 (p := 111) d_92_110 rfl (zX_gr (p := 114) (b := 1) d_92_111 ow_92 gf_0_10 zo_0 (zr_0_0 hL zo_0) rfl (zX_gr (p := 117) (b := 2) d_92_114 ow_92 gf_0_52 zo_1 (zr_1_0 hL zo_1) rfl (zX_gr (p := 120) (b := 5) d_92_117 ow_92 gf_0_210 zo_2 (zr_2_2 hL zo_2) rfl (zX_iln1 (p := 121) d_92_120 rfl (zX_iag (p := 122) d_92_121 za_5 rfl ?_)))))
      exact zX_retm d_92_122 rt_92
    refine zX_ite (fun hs15_5 => ?_) (fun hs15_5 => ?_)
    · refine zX_tsh (p := 123) (n := 5) d_92_15 hs15_5 (by decide) (by decide) (by decide) rfl (by decide) ?_
      refine zX_aln0 (p := 124) d_92_123 rfl (zX_gr (p := 127) (b := 1) d_92_124 ow_92 gf_0_10 zo_0 (zr_0_0 hL zo_0) rfl (zX_gr (p := 130) (b := 39) d_92_127 ow_92 gf_0_155 zo_1 (zr_1_8 hL zo_1) rfl (zX_iln1 (p := 131) d_92_130 rfl (zX_iag (p := 132) d_92_131 za_39 rfl ?_))))
      exact zX_retm d_92_132 rt_92
    refine zX_ite (fun hs15_6 => ?_) (fun hs15_6 => ?_)
    · refine zX_tsh (p := 133) (n := 6) d_92_15 hs15_6 (by decide) (by decide) (by decide) rfl (by decide) ?_
      refine zX_aln0 (p := 134) d_92_133 rfl (zX_gr (p := 137) (b := 1) d_92_134 ow_92 gf_0_10 zo_0 (zr_0_0 hL zo_0) rfl (zX_gr (p := 140) (b := 2) d_92_137 ow_92 gf_0_52 zo_1 (zr_1_0 hL zo_1) rfl (zX_gr (p := 143) (b := 6) d_92_140 ow_92 gf_0_98 zo_2 (zr_2_3 hL zo_2) rfl (zX_iln1 (p := 144) d_92_143 rfl (zX_iag (p := 145) d_92_144 za_6 rfl ?_)))))
      exact zX_retm d_92_145 rt_92
    refine zX_ite (fun hs15_7 => ?_) (fun hs15_7 => ?_)
    · refine zX_tsh (p := 146) (n := 7) d_92_15 hs15_7 (by decide) (by decide) (by decide) rfl (by decide) ?_
      refine zX_aln0 (p := 147) d_92_146 rfl (zX_gr (p := 150) (b := 1) d_92_147 ow_92 gf_0_10 zo_0 (zr_0_0 hL zo_0) rfl (zX_aln0 (p := 151) d_92_150 rfl (zX_gr (p := 154) (b := 1) d_92_151 ow_92 gf_0_10 zo_0 (zr_0_0 hL zo_0) rfl (zX_gr (p := 157) (b := 2) d_92_154 ow_92 gf_0_52 zo_1 (zr_1_0 hL zo_1) rfl (zX_si (p := 160) d_92_157 cs_256 rfl (zX_iln1 (p := 161) d_92_160 rfl (zX_ic (p := 162) d_92_161 ci_0 rfl ?_)))))))
      refine zX_cV4m (p := 165) ⟨ow_27, by decide, zdr_27⟩ zo_1 d_92_162 ow_92 rs_0_213 kk_27 rfl (s27 hL zo_1 zo_2) rfl rfl rfl rfl (fun v2 M3 => ?_)
      try dsimp only
      exact zX_retm d_92_165 rt_92
    refine zX_ite (fun hs15_8 => ?_) (fun hs15_8 => ?_)
    · refine zX_tsh (p := 166) (n := 8) d_92_15 hs15_8 (by decide) (by decide) (by decide) rfl (by decide) ?_
      refine zX_aln0 (p := 167) d_92_166 rfl (zX_iln1 (p := 168) d_92_167 rfl (zX_cV1m (p := 171) ⟨ow_93, by decide, zdr_93⟩ zo_0 d_92_168 ow_92 rs_0_217 kk_93 rfl (s93 hL) rfl rfl rfl rfl (fun v4 M5 => ?_)))
      try dsimp only
      exact zX_retm d_92_171 rt_92
    have hz15 : (a2 : Int32).toInt < 0 ∨ 8 < (a2 : Int32).toInt := by
      have := zne_i (n := 0) (by decide) hs15_0
      have := zne_i (n := 1) (by decide) hs15_1
      have := zne_i (n := 2) (by decide) hs15_2
      have := zne_i (n := 3) (by decide) hs15_3
      have := zne_i (n := 4) (by decide) hs15_4
      have := zne_i (n := 5) (by decide) hs15_5
      have := zne_i (n := 6) (by decide) hs15_6
      have := zne_i (n := 7) (by decide) hs15_7
      have := zne_i (n := 8) (by decide) hs15_8
      omega
    refine zX_tsd (p := 172) d_92_15 hz15 (by decide) ?_
    refine zX_bi (p := 174) d_92_172 cb_m2 rfl ?_
    exact zX_retm d_92_174 rt_92
  · refine zX_bi (p := 13) d_92_11 cb_m2 rfl ?_
    exact zX_retm d_92_13 rt_92

theorem s94 {q : ZQ} {d : Nat} (hL : zLay q) {a1 : Int32} {a2 : Int32} {a3 : Int32} {M : ZI} : zX q (d + 5) 94 0 [.val (.ref 0), .val (.int a1), .val (.int a2), .val (.int a3)] [] M (f94_after a1 a2 a3 M) zEm := by
  unfold f94_after
  refine zX_aln0 (p := 1) d_94_0 rfl (zX_gr (p := 4) (b := 1) d_94_1 ow_94 gf_0_10 zo_0 (zr_0_0 hL zo_0) rfl (zX_iln1 (p := 5) d_94_4 rfl (zX_cV1i (p := 8) ⟨ow_17, by decide, zdr_17⟩ zo_1 d_94_5 ow_94 rs_0_94 kk_17 rfl (s17 hL zo_1) rfl rfl rfl rfl (fun v1 => ?_))))
  refine zX_zeq (p1 := 21) (p2 := 11) d_94_8 (by decide) rfl ?_ ?_
  · refine zX_ic (p := 22) d_94_21 ci_m1 rfl ?_
    exact zX_retm d_94_22 rt_94
  · refine zX_iln2 (p := 12) d_94_11 rfl (zX_ic (p := 13) d_94_12 ci_0 rfl (zX_bi (p := 15) d_94_13 cb_24 rfl (zX_cS3i (p := 18) d_94_15 ow_94 rs_0_61 kk_13 rfl (s13 hL) rfl rfl rfl rfl (fun v2 => ?_))))
    refine zX_zne (p1 := 23) (p2 := 21) d_94_18 (by decide) rfl ?_ ?_
    · refine zX_aln0 (p := 24) d_94_23 rfl (zX_gr (p := 27) (b := 1) d_94_24 ow_94 gf_0_10 zo_0 (zr_0_0 hL zo_0) rfl (zX_aln0 (p := 28) d_94_27 rfl (zX_gr (p := 31) (b := 1) d_94_28 ow_94 gf_0_10 zo_0 (zr_0_0 hL zo_0) rfl (zX_gr (p := 34) (b := 2) d_94_31 ow_94 gf_0_52 zo_1 (zr_1_0 hL zo_1) rfl (zX_iln3 (p := 35) d_94_34 rfl ?_)))))
      refine zX_bind (σ := Unit) (β := Int32) (pj := 47) (lj := fun (b : Int32) (s : Unit) => [.val (.ref 0), .val (.int a1), .val (.int a2), .val (.int a3)]) (sj := fun b => [.int b, .ref 2, .ref 1]) (mj := fun b => M) ?_ ?_
      · refine zX_zeq (p1 := 44) (p2 := 38) d_94_35 (by decide) rfl ?_ ?_
        · refine zX_si (p := 47) d_94_44 cs_257 rfl ?_
          exact zX_leaf (fun _ _ h => h ())
        · refine zX_si (p := 41) d_94_38 cs_258 rfl (zX_goto (p := 47) d_94_41 (by decide) ?_)
          exact zX_leaf (fun _ _ h => h ())
      · rintro v3 _
        try dsimp only
        refine zX_iln1 (p := 48) d_94_47 rfl (zX_iln2 (p := 49) d_94_48 rfl (zX_cV4m (p := 52) ⟨ow_27, by decide, zdr_27⟩ zo_1 d_94_49 ow_94 rs_0_213 kk_27 rfl (s27 hL zo_1 zo_2) rfl rfl rfl rfl (fun v4 M5 => ?_)))
        try dsimp only
        exact zX_retm d_94_52 rt_94
    · refine zX_ic (p := 22) d_94_21 ci_m1 rfl ?_
      exact zX_retm d_94_22 rt_94

theorem s95 {q : ZQ} {d : Nat} (hL : zLay q) {a1 : Int32} {a2 : Int32} {M : ZI} : zX q (d + 1) 95 0 [.val (.ref 0), .val (.int a1), .val (.int a2), .unset] [] M (f95_work a1 a2 M) (zEi M) := by
  unfold f95_work
  refine zX_aln0 (p := 1) d_95_0 rfl (zX_gr (p := 4) (b := 1) d_95_1 ow_95 gf_0_10 zo_0 (zr_0_0 hL zo_0) rfl (zX_gr (p := 7) (b := 21) d_95_4 ow_95 gf_0_169 zo_1 (zr_1_3 hL zo_1) rfl (zX_asn3 (p := 8) d_95_7 rfl (zX_iln1 (p := 9) d_95_8 rfl (zX_ic (p := 10) d_95_9 ci_0 rfl (zX_aln3 (p := 11) d_95_10 rfl (zX_gi (p := 14) d_95_11 ow_95 gf_0_182 zo_21 rfl ?_)))))))
  refine zX_ic (p := 15) d_95_14 ci_1 rfl (zX_sub (p := 16) d_95_15 rfl (zX_cS3i (p := 19) d_95_16 ow_95 rs_0_61 kk_13 rfl (s13 hL) rfl rfl rfl rfl (fun v1 => ?_)))
  refine zX_zne (p1 := 25) (p2 := 22) d_95_19 (by decide) rfl ?_ ?_
  · refine zX_iln2 (p := 26) d_95_25 rfl ?_
    refine zX_ite (fun hs26_0 => ?_) (fun hs26_0 => ?_)
    · refine zX_tsh (p := 68) (n := 0) d_95_26 hs26_0 (by decide) (by decide) (by decide) rfl (by decide) ?_
      refine zX_aln3 (p := 69) d_95_68 rfl (zX_gr (p := 72) (b := 22) d_95_69 ow_95 gf_0_221 zo_21 (zr_6_0 hL zo_21) rfl (zX_iln1 (p := 73) d_95_72 rfl (zX_iag (p := 74) d_95_73 za_22 rfl ?_)))
      exact zX_reti d_95_74 rt_95
    refine zX_ite (fun hs26_1 => ?_) (fun hs26_1 => ?_)
    · refine zX_tsh (p := 75) (n := 1) d_95_26 hs26_1 (by decide) (by decide) (by decide) rfl (by decide) ?_
      refine zX_aln3 (p := 76) d_95_75 rfl (zX_gr (p := 79) (b := 23) d_95_76 ow_95 gf_0_224 zo_21 (zr_6_1 hL zo_21) rfl (zX_iln1 (p := 80) d_95_79 rfl (zX_iag (p := 81) d_95_80 za_23 rfl ?_)))
      exact zX_reti d_95_81 rt_95
    refine zX_ite (fun hs26_2 => ?_) (fun hs26_2 => ?_)
    · refine zX_tsh (p := 82) (n := 2) d_95_26 hs26_2 (by decide) (by decide) (by decide) rfl (by decide) ?_
      refine zX_aln3 (p := 83) d_95_82 rfl (zX_gr (p := 86) (b := 24) d_95_83 ow_95 gf_0_227 zo_21 (zr_6_2 hL zo_21) rfl (zX_iln1 (p := 87) d_95_86 rfl (zX_iag (p := 88) d_95_87 za_24 rfl ?_)))
      exact zX_reti d_95_88 rt_95
    refine zX_ite (fun hs26_3 => ?_) (fun hs26_3 => ?_)
    · refine zX_tsh (p := 89) (n := 3) d_95_26 hs26_3 (by decide) (by decide) (by decide) rfl (by decide) ?_
      refine zX_aln3 (p := 90) d_95_89 rfl (zX_gr (p := 93) (b := 25) d_95_90 ow_95 gf_0_230 zo_21 (zr_6_3 hL zo_21) rfl (zX_iln1 (p := 94) d_95_93 rfl (zX_iag (p := 95) d_95_94 za_25 rfl ?_)))
      exact zX_reti d_95_95 rt_95
    refine zX_ite (fun hs26_4 => ?_) (fun hs26_4 => ?_)
    · refine zX_tsh (p := 96) (n := 4) d_95_26 hs26_4 (by decide) (by decide) (by decide) rfl (by decide) ?_
      refine zX_aln3 (p := 97) d_95_96 rfl (zX_gr (p := 100) (b := 26) d_95_97 ow_95 gf_0_233 zo_21 (zr_6_4 hL zo_21) rfl (zX_iln1 (p := 101) d_95_100 rfl (zX_iag (p := 102) d_95_101 za_26 rfl ?_)))
      exact zX_reti d_95_102 rt_95
    refine zX_ite (fun hs26_5 => ?_) (fun hs26_5 => ?_)
    · refine zX_tsh (p := 103) (n := 5) d_95_26 hs26_5 (by decide) (by decide) (by decide) rfl (by decide) ?_
      refine zX_aln3 (p := 104) d_95_103 rfl (zX_gr (p := 107) (b := 27) d_95_104 ow_95 gf_0_236 zo_21 (zr_6_5 hL zo_21) rfl (zX_iln1 (p := 108) d_95_107 rfl (zX_iag (p := 109) d_95_108 za_27 rfl ?_)))
      exact zX_reti d_95_109 rt_95
    refine zX_ite (fun hs26_6 => ?_) (fun hs26_6 => ?_)
    · refine zX_tsh (p := 110) (n := 6) d_95_26 hs26_6 (by decide) (by decide) (by decide) rfl (by decide) ?_
      refine zX_aln0 (p := 111) d_95_110 rfl (zX_gr (p := 114) (b := 1) d_95_111 ow_95 gf_0_10 zo_0 (zr_0_0 hL zo_0) rfl (zX_gr (p := 117) (b := 2) d_95_114 ow_95 gf_0_52 zo_1 (zr_1_0 hL zo_1) rfl (zX_gi (p := 120) d_95_117 ow_95 gf_0_179 zo_2 rfl (zX_iln1 (p := 121) d_95_120 rfl (zX_cS2i (p := 124) d_95_121 ow_95 rs_0_101 kk_19 rfl (s19 hL) rfl rfl rfl rfl (fun v2 => ?_))))))
      refine zX_zeq (p1 := 131) (p2 := 127) d_95_124 (by decide) rfl ?_ ?_
      · refine zX_ic (p := 132) d_95_131 ci_0 rfl ?_
        exact zX_reti d_95_132 rt_95
      · refine zX_ic (p := 128) d_95_127 ci_1 rfl (zX_goto (p := 132) d_95_128 (by decide) ?_)
        exact zX_reti d_95_132 rt_95
    have hz26 : (a2 : Int32).toInt < 0 ∨ 6 < (a2 : Int32).toInt := by
      have := zne_i (n := 0) (by decide) hs26_0
      have := zne_i (n := 1) (by decide) hs26_1
      have := zne_i (n := 2) (by decide) hs26_2
      have := zne_i (n := 3) (by decide) hs26_3
      have := zne_i (n := 4) (by decide) hs26_4
      have := zne_i (n := 5) (by decide) hs26_5
      have := zne_i (n := 6) (by decide) hs26_6
      omega
    refine zX_tsd (p := 133) d_95_26 hz26 (by decide) ?_
    refine zX_bi (p := 135) d_95_133 cb_m2 rfl ?_
    exact zX_reti d_95_135 rt_95
  · refine zX_bi (p := 24) d_95_22 cb_m2 rfl ?_
    exact zX_reti d_95_24 rt_95

theorem s96 {q : ZQ} {d : Nat} (hL : zLay q) {a1 : Int32} {a2 : Int32} {M : ZI} : zX q (d + 1) 96 0 [.val (.ref 0), .val (.int a1), .val (.int a2)] [] M (f96_book a1 a2 M) (zEi M) := by
  unfold f96_book
  refine zX_iln1 (p := 1) d_96_0 rfl (zX_ic (p := 2) d_96_1 ci_0 rfl (zX_aln0 (p := 3) d_96_2 rfl (zX_gr (p := 6) (b := 1) d_96_3 ow_96 gf_0_10 zo_0 (zr_0_0 hL zo_0) rfl (zX_gr (p := 9) (b := 2) d_96_6 ow_96 gf_0_52 zo_1 (zr_1_0 hL zo_1) rfl (zX_gi (p := 12) d_96_9 ow_96 gf_0_239 zo_2 rfl (zX_ic (p := 13) d_96_12 ci_1 rfl (zX_sub (p := 14) d_96_13 rfl ?_)))))))
  refine zX_cS3i (p := 17) d_96_14 ow_96 rs_0_61 kk_13 rfl (s13 hL) rfl rfl rfl rfl (fun v1 => ?_)
  refine zX_zne (p1 := 23) (p2 := 20) d_96_17 (by decide) rfl ?_ ?_
  · refine zX_iln2 (p := 24) d_96_23 rfl ?_
    refine zX_ite (fun hs24_0 => ?_) (fun hs24_0 => ?_)
    · refine zX_tsh (p := 56) (n := 0) d_96_24 hs24_0 (by decide) (by decide) (by decide) rfl (by decide) ?_
      refine zX_aln0 (p := 57) d_96_56 rfl (zX_gr (p := 60) (b := 1) d_96_57 ow_96 gf_0_10 zo_0 (zr_0_0 hL zo_0) rfl (zX_gr (p := 63) (b := 7) d_96_60 ow_96 gf_0_240 zo_1 (zr_1_1 hL zo_1) rfl (zX_gr (p := 66) (b := 8) d_96_63 ow_96 gf_0_244 zo_7 (zr_3_0 hL zo_7) rfl (zX_iln1 (p := 67) d_96_66 rfl (zX_iag (p := 68) d_96_67 za_8 rfl ?_)))))
      exact zX_reti d_96_68 rt_96
    refine zX_ite (fun hs24_1 => ?_) (fun hs24_1 => ?_)
    · refine zX_tsh (p := 69) (n := 1) d_96_24 hs24_1 (by decide) (by decide) (by decide) rfl (by decide) ?_
      refine zX_aln0 (p := 70) d_96_69 rfl (zX_gr (p := 73) (b := 1) d_96_70 ow_96 gf_0_10 zo_0 (zr_0_0 hL zo_0) rfl (zX_gr (p := 76) (b := 7) d_96_73 ow_96 gf_0_240 zo_1 (zr_1_1 hL zo_1) rfl (zX_gr (p := 79) (b := 9) d_96_76 ow_96 gf_0_248 zo_7 (zr_3_1 hL zo_7) rfl (zX_iln1 (p := 80) d_96_79 rfl (zX_iag (p := 81) d_96_80 za_9 rfl ?_)))))
      exact zX_reti d_96_81 rt_96
    refine zX_ite (fun hs24_2 => ?_) (fun hs24_2 => ?_)
    · refine zX_tsh (p := 82) (n := 2) d_96_24 hs24_2 (by decide) (by decide) (by decide) rfl (by decide) ?_
      refine zX_aln0 (p := 83) d_96_82 rfl (zX_gr (p := 86) (b := 1) d_96_83 ow_96 gf_0_10 zo_0 (zr_0_0 hL zo_0) rfl (zX_gr (p := 89) (b := 7) d_96_86 ow_96 gf_0_240 zo_1 (zr_1_1 hL zo_1) rfl (zX_gr (p := 92) (b := 10) d_96_89 ow_96 gf_0_251 zo_7 (zr_3_2 hL zo_7) rfl (zX_iln1 (p := 93) d_96_92 rfl (zX_iag (p := 94) d_96_93 za_10 rfl ?_)))))
      exact zX_reti d_96_94 rt_96
    refine zX_ite (fun hs24_3 => ?_) (fun hs24_3 => ?_)
    · refine zX_tsh (p := 95) (n := 3) d_96_24 hs24_3 (by decide) (by decide) (by decide) rfl (by decide) ?_
      refine zX_aln0 (p := 96) d_96_95 rfl (zX_gr (p := 99) (b := 1) d_96_96 ow_96 gf_0_10 zo_0 (zr_0_0 hL zo_0) rfl (zX_gr (p := 102) (b := 7) d_96_99 ow_96 gf_0_240 zo_1 (zr_1_1 hL zo_1) rfl (zX_gr (p := 105) (b := 11) d_96_102 ow_96 gf_0_254 zo_7 (zr_3_3 hL zo_7) rfl (zX_iln1 (p := 106) d_96_105 rfl (zX_iag (p := 107) d_96_106 za_11 rfl ?_)))))
      exact zX_reti d_96_107 rt_96
    have hz24 : (a2 : Int32).toInt < 0 ∨ 3 < (a2 : Int32).toInt := by
      have := zne_i (n := 0) (by decide) hs24_0
      have := zne_i (n := 1) (by decide) hs24_1
      have := zne_i (n := 2) (by decide) hs24_2
      have := zne_i (n := 3) (by decide) hs24_3
      omega
    refine zX_tsd (p := 108) d_96_24 hz24 (by decide) ?_
    refine zX_bi (p := 110) d_96_108 cb_m2 rfl ?_
    exact zX_reti d_96_110 rt_96
  · refine zX_bi (p := 22) d_96_20 cb_m2 rfl ?_
    exact zX_reti d_96_22 rt_96

theorem s138 {q : ZQ} {d : Nat} (hL : zLay q) {M : ZI} : zX q (d + 1) 138 0 [.val (.ref 0)] [] M (f138_undo M) zEm := by
  unfold f138_undo
  refine zX_aln0 (p := 1) d_138_0 rfl (zX_gi (p := 4) d_138_1 ow_138 gf_0_34 zo_0 rfl ?_)
  refine zX_zne (p1 := 9) (p2 := 7) d_138_4 (by decide) rfl ?_ ?_
  · refine zX_aln0 (p := 10) d_138_9 rfl (zX_dup (p := 11) d_138_10 rfl rfl (zX_gi (p := 14) d_138_11 ow_138 gf_0_34 zo_0 rfl (zX_ic (p := 15) d_138_14 ci_1 rfl (zX_sub (p := 16) d_138_15 rfl (zX_pi (p := 19) d_138_16 ow_138 gf_0_34 zo_0 rfl (fun M1 => ?_))))))
    refine zX_aln0 (p := 20) d_138_19 rfl (zX_gr (p := 23) (b := 1) d_138_20 ow_138 gf_0_10 zo_0 (zr_0_0 hL zo_0) rfl (zX_gr (p := 26) (b := 2) d_138_23 ow_138 gf_0_52 zo_1 (zr_1_0 hL zo_1) rfl (zX_aln0 (p := 27) d_138_26 rfl (zX_gr (p := 30) (b := 83) d_138_27 ow_138 gf_0_25 zo_0 (zr_0_3 hL zo_0) rfl (zX_aln0 (p := 31) d_138_30 rfl (zX_gi (p := 34) d_138_31 ow_138 gf_0_30 zo_0 rfl (zX_aln0 (p := 35) d_138_34 rfl ?_)))))))
    refine zX_gi (p := 38) d_138_35 ow_138 gf_0_34 zo_0 rfl (zX_add (p := 39) d_138_38 rfl (zX_bi (p := 41) d_138_39 cb_6 rfl (zX_rem (p := 42) d_138_41 (by decide) rfl ?_)))
    refine zX_grd (fun hg2 => ?_)
    refine zX_aa (p := 43) (b := (zpa (zrem ((M1 0 4) + (M1 0 5)) (6 : Int32)))) d_138_42 zp_83 rfl hg2 (zr_pa hL hg2) (zX_cV1v (p := 46) ⟨ow_21, by decide, zdr_21⟩ zo_2 d_138_43 ow_138 rs_0_269 kk_21 rfl (s21 hL zo_2 (zo_pa hg2)) rfl rfl rfl rfl (fun M3 => ?_))
    refine zX_ic (p := 47) d_138_46 ci_1 rfl ?_
    exact zX_retmb d_138_47 rt_138 (Or.inr rfl)
  · refine zX_ic (p := 8) d_138_7 ci_0 rfl ?_
    exact zX_retmb d_138_8 rt_138 (Or.inl rfl)

theorem s144 {q : ZQ} {d : Nat} (hL : zLay q) {a1 : Int32} {M : ZI} : zX q (d + 6) 144 0 [.val (.ref 0), .val (.int a1)] [] M (f144_lookFurther a1 M) zEm := by
  unfold f144_lookFurther
  refine zX_iln1 (p := 1) d_144_0 rfl ?_
  refine zX_ite (fun hs1_0 => ?_) (fun hs1_0 => ?_)
  · refine zX_tsh (p := 52) (n := 9) d_144_1 hs1_0 (by decide) (by decide) (by decide) rfl (by decide) ?_
    refine zX_aln0 (p := 53) d_144_52 rfl (zX_gr (p := 56) (b := 1) d_144_53 ow_144 gf_0_10 zo_0 (zr_0_0 hL zo_0) rfl (zX_gr (p := 59) (b := 12) d_144_56 ow_144 gf_0_135 zo_1 (zr_1_2 hL zo_1) rfl (zX_gi (p := 62) d_144_59 ow_144 gf_0_146 zo_12 rfl ?_)))
    exact zX_retm d_144_62 rt_144
  refine zX_ite (fun hs1_1 => ?_) (fun hs1_1 => ?_)
  · refine zX_tsh (p := 63) (n := 10) d_144_1 hs1_1 (by decide) (by decide) (by decide) rfl (by decide) ?_
    refine zX_aln0 (p := 64) d_144_63 rfl (zX_gr (p := 67) (b := 1) d_144_64 ow_144 gf_0_10 zo_0 (zr_0_0 hL zo_0) rfl (zX_cV0i (p := 70) ⟨ow_84, by decide, zdr_84⟩ zo_1 d_144_67 ow_144 rs_0_162 kk_84 rfl (s84 hL zo_1) rfl rfl rfl rfl (fun v1 => ?_)))
    exact zX_retm d_144_70 rt_144
  refine zX_ite (fun hs1_2 => ?_) (fun hs1_2 => ?_)
  · refine zX_tsh (p := 71) (n := 11) d_144_1 hs1_2 (by decide) (by decide) (by decide) rfl (by decide) ?_
    refine zX_aln0 (p := 72) d_144_71 rfl (zX_gr (p := 75) (b := 1) d_144_72 ow_144 gf_0_10 zo_0 (zr_0_0 hL zo_0) rfl (zX_gr (p := 78) (b := 21) d_144_75 ow_144 gf_0_169 zo_1 (zr_1_3 hL zo_1) rfl (zX_gi (p := 81) d_144_78 ow_144 gf_0_182 zo_21 rfl ?_)))
    exact zX_retm d_144_81 rt_144
  refine zX_ite (fun hs1_3 => ?_) (fun hs1_3 => ?_)
  · refine zX_tsh (p := 82) (n := 12) d_144_1 hs1_3 (by decide) (by decide) (by decide) rfl (by decide) ?_
    refine zX_aln0 (p := 83) d_144_82 rfl (zX_gr (p := 86) (b := 1) d_144_83 ow_144 gf_0_10 zo_0 (zr_0_0 hL zo_0) rfl (zX_gr (p := 89) (b := 29) d_144_86 ow_144 gf_0_188 zo_1 (zr_1_4 hL zo_1) rfl (zX_gi (p := 92) d_144_89 ow_144 gf_0_198 zo_29 rfl ?_)))
    exact zX_retm d_144_92 rt_144
  refine zX_ite (fun hs1_4 => ?_) (fun hs1_4 => ?_)
  · refine zX_tsh (p := 93) (n := 13) d_144_1 hs1_4 (by decide) (by decide) (by decide) rfl (by decide) ?_
    refine zX_aln0 (p := 94) d_144_93 rfl (zX_gr (p := 97) (b := 1) d_144_94 ow_144 gf_0_10 zo_0 (zr_0_0 hL zo_0) rfl (zX_gr (p := 100) (b := 34) d_144_97 ow_144 gf_0_321 zo_1 (zr_1_5 hL zo_1) rfl (zX_gi (p := 103) d_144_100 ow_144 gf_0_325 zo_34 rfl ?_)))
    exact zX_retm d_144_103 rt_144
  refine zX_ite (fun hs1_5 => ?_) (fun hs1_5 => ?_)
  · refine zX_tsh (p := 104) (n := 14) d_144_1 hs1_5 (by decide) (by decide) (by decide) rfl (by decide) ?_
    refine zX_aln0 (p := 105) d_144_104 rfl (zX_gi (p := 108) d_144_105 ow_144 gf_0_34 zo_0 rfl ?_)
    exact zX_retm d_144_108 rt_144
  refine zX_ite (fun hs1_6 => ?_) (fun hs1_6 => ?_)
  · refine zX_tsh (p := 109) (n := 15) d_144_1 hs1_6 (by decide) (by decide) (by decide) rfl (by decide) ?_
    refine zX_aln0 (p := 110) d_144_109 rfl (zX_gr (p := 113) (b := 1) d_144_110 ow_144 gf_0_10 zo_0 (zr_0_0 hL zo_0) rfl (zX_aln0 (p := 114) d_144_113 rfl (zX_gr (p := 117) (b := 1) d_144_114 ow_144 gf_0_10 zo_0 (zr_0_0 hL zo_0) rfl (zX_gr (p := 120) (b := 2) d_144_117 ow_144 gf_0_52 zo_1 (zr_1_0 hL zo_1) rfl (zX_cV1v (p := 123) ⟨ow_26, by decide, zdr_26⟩ zo_1 d_144_120 ow_144 rs_0_279 kk_26 rfl (s26 hL zo_1 zo_2) rfl rfl rfl rfl (fun M2 => ?_))))))
    refine zX_aln0 (p := 124) d_144_123 rfl (zX_gr (p := 127) (b := 1) d_144_124 ow_144 gf_0_10 zo_0 (zr_0_0 hL zo_0) rfl (zX_ic (p := 128) d_144_127 ci_m1 rfl (zX_ic (p := 129) d_144_128 ci_m1 rfl (zX_cV2m (p := 132) ⟨ow_36, by decide, zdr_36⟩ zo_1 d_144_129 ow_144 rs_0_282 kk_36 rfl (s36 hL zo_1) rfl rfl rfl rfl (fun v3 M4 => ?_)))))
    try dsimp only
    exact zX_retm d_144_132 rt_144
  refine zX_ite (fun hs1_7 => ?_) (fun hs1_7 => ?_)
  · refine zX_tsh (p := 133) (n := 16) d_144_1 hs1_7 (by decide) (by decide) (by decide) rfl (by decide) ?_
    refine zX_aln0 (p := 134) d_144_133 rfl (zX_gr (p := 137) (b := 1) d_144_134 ow_144 gf_0_10 zo_0 (zr_0_0 hL zo_0) rfl (zX_gi (p := 140) d_144_137 ow_144 gf_0_299 zo_1 rfl ?_))
    exact zX_retm d_144_140 rt_144
  refine zX_ite (fun hs1_8 => ?_) (fun hs1_8 => ?_)
  · refine zX_tsh (p := 141) (n := 17) d_144_1 hs1_8 (by decide) (by decide) (by decide) rfl (by decide) ?_
    refine zX_aln0 (p := 142) d_144_141 rfl (zX_gr (p := 145) (b := 1) d_144_142 ow_144 gf_0_10 zo_0 (zr_0_0 hL zo_0) rfl (zX_gi (p := 148) d_144_145 ow_144 gf_0_301 zo_1 rfl ?_))
    exact zX_retm d_144_148 rt_144
  have hz1 : (a1 : Int32).toInt < 9 ∨ 17 < (a1 : Int32).toInt := by
    have := zne_i (n := 9) (by decide) hs1_0
    have := zne_i (n := 10) (by decide) hs1_1
    have := zne_i (n := 11) (by decide) hs1_2
    have := zne_i (n := 12) (by decide) hs1_3
    have := zne_i (n := 13) (by decide) hs1_4
    have := zne_i (n := 14) (by decide) hs1_5
    have := zne_i (n := 15) (by decide) hs1_6
    have := zne_i (n := 16) (by decide) hs1_7
    have := zne_i (n := 17) (by decide) hs1_8
    omega
  refine zX_tsd (p := 149) d_144_1 hz1 (by decide) ?_
  refine zX_ic (p := 150) d_144_149 ci_m1 rfl ?_
  exact zX_retm d_144_150 rt_144

theorem s143 {q : ZQ} {d : Nat} (hL : zLay q) {a1 : Int32} {M : ZI} : zX q (d + 7) 143 0 [.val (.ref 0), .val (.int a1)] [] M (f143_look a1 M) zEm := by
  unfold f143_look
  refine zX_iln1 (p := 1) d_143_0 rfl ?_
  refine zX_ite (fun hs1_0 => ?_) (fun hs1_0 => ?_)
  · refine zX_tsh (p := 52) (n := 0) d_143_1 hs1_0 (by decide) (by decide) (by decide) rfl (by decide) ?_
    refine zX_aln0 (p := 53) d_143_52 rfl (zX_gr (p := 56) (b := 1) d_143_53 ow_143 gf_0_10 zo_0 (zr_0_0 hL zo_0) rfl (zX_gi (p := 59) d_143_56 ow_143 gf_0_65 zo_1 rfl ?_))
    exact zX_retm d_143_59 rt_143
  refine zX_ite (fun hs1_1 => ?_) (fun hs1_1 => ?_)
  · refine zX_tsh (p := 60) (n := 1) d_143_1 hs1_1 (by decide) (by decide) (by decide) rfl (by decide) ?_
    refine zX_aln0 (p := 61) d_143_60 rfl (zX_gr (p := 64) (b := 1) d_143_61 ow_143 gf_0_10 zo_0 (zr_0_0 hL zo_0) rfl (zX_gr (p := 67) (b := 2) d_143_64 ow_143 gf_0_52 zo_1 (zr_1_0 hL zo_1) rfl (zX_gi (p := 70) d_143_67 ow_143 gf_0_112 zo_2 rfl ?_)))
    exact zX_retm d_143_70 rt_143
  refine zX_ite (fun hs1_2 => ?_) (fun hs1_2 => ?_)
  · refine zX_tsh (p := 71) (n := 2) d_143_1 hs1_2 (by decide) (by decide) (by decide) rfl (by decide) ?_
    refine zX_aln0 (p := 72) d_143_71 rfl (zX_gr (p := 75) (b := 1) d_143_72 ow_143 gf_0_10 zo_0 (zr_0_0 hL zo_0) rfl (zX_gr (p := 78) (b := 2) d_143_75 ow_143 gf_0_52 zo_1 (zr_1_0 hL zo_1) rfl (zX_gi (p := 81) d_143_78 ow_143 gf_0_75 zo_2 rfl ?_)))
    exact zX_retm d_143_81 rt_143
  refine zX_ite (fun hs1_3 => ?_) (fun hs1_3 => ?_)
  · refine zX_tsh (p := 82) (n := 3) d_143_1 hs1_3 (by decide) (by decide) (by decide) rfl (by decide) ?_
    refine zX_aln0 (p := 83) d_143_82 rfl (zX_gr (p := 86) (b := 1) d_143_83 ow_143 gf_0_10 zo_0 (zr_0_0 hL zo_0) rfl (zX_gi (p := 89) d_143_86 ow_143 gf_0_78 zo_1 rfl ?_))
    exact zX_retm d_143_89 rt_143
  refine zX_ite (fun hs1_4 => ?_) (fun hs1_4 => ?_)
  · refine zX_tsh (p := 90) (n := 4) d_143_1 hs1_4 (by decide) (by decide) (by decide) rfl (by decide) ?_
    refine zX_aln0 (p := 91) d_143_90 rfl (zX_gr (p := 94) (b := 1) d_143_91 ow_143 gf_0_10 zo_0 (zr_0_0 hL zo_0) rfl (zX_gi (p := 97) d_143_94 ow_143 gf_0_81 zo_1 rfl ?_))
    exact zX_retm d_143_97 rt_143
  refine zX_ite (fun hs1_5 => ?_) (fun hs1_5 => ?_)
  · refine zX_tsh (p := 98) (n := 5) d_143_1 hs1_5 (by decide) (by decide) (by decide) rfl (by decide) ?_
    refine zX_aln0 (p := 99) d_143_98 rfl (zX_gr (p := 102) (b := 1) d_143_99 ow_143 gf_0_10 zo_0 (zr_0_0 hL zo_0) rfl (zX_gr (p := 105) (b := 2) d_143_102 ow_143 gf_0_52 zo_1 (zr_1_0 hL zo_1) rfl (zX_gi (p := 108) d_143_105 ow_143 gf_0_359 zo_2 rfl ?_)))
    exact zX_retm d_143_108 rt_143
  refine zX_ite (fun hs1_6 => ?_) (fun hs1_6 => ?_)
  · refine zX_tsh (p := 109) (n := 6) d_143_1 hs1_6 (by decide) (by decide) (by decide) rfl (by decide) ?_
    refine zX_aln0 (p := 110) d_143_109 rfl (zX_gr (p := 113) (b := 1) d_143_110 ow_143 gf_0_10 zo_0 (zr_0_0 hL zo_0) rfl (zX_gr (p := 116) (b := 2) d_143_113 ow_143 gf_0_52 zo_1 (zr_1_0 hL zo_1) rfl (zX_gi (p := 119) d_143_116 ow_143 gf_0_277 zo_2 rfl ?_)))
    exact zX_retm d_143_119 rt_143
  refine zX_ite (fun hs1_7 => ?_) (fun hs1_7 => ?_)
  · refine zX_tsh (p := 120) (n := 7) d_143_1 hs1_7 (by decide) (by decide) (by decide) rfl (by decide) ?_
    refine zX_aln0 (p := 121) d_143_120 rfl (zX_gr (p := 124) (b := 1) d_143_121 ow_143 gf_0_10 zo_0 (zr_0_0 hL zo_0) rfl (zX_gr (p := 127) (b := 2) d_143_124 ow_143 gf_0_52 zo_1 (zr_1_0 hL zo_1) rfl (zX_gi (p := 130) d_143_127 ow_143 gf_0_239 zo_2 rfl ?_)))
    exact zX_retm d_143_130 rt_143
  refine zX_ite (fun hs1_8 => ?_) (fun hs1_8 => ?_)
  · refine zX_tsh (p := 131) (n := 8) d_143_1 hs1_8 (by decide) (by decide) (by decide) rfl (by decide) ?_
    refine zX_aln0 (p := 132) d_143_131 rfl (zX_gr (p := 135) (b := 1) d_143_132 ow_143 gf_0_10 zo_0 (zr_0_0 hL zo_0) rfl (zX_gr (p := 138) (b := 2) d_143_135 ow_143 gf_0_52 zo_1 (zr_1_0 hL zo_1) rfl (zX_gi (p := 141) d_143_138 ow_143 gf_0_55 zo_2 rfl ?_)))
    exact zX_retm d_143_141 rt_143
  have hz1 : (a1 : Int32).toInt < 0 ∨ 8 < (a1 : Int32).toInt := by
    have := zne_i (n := 0) (by decide) hs1_0
    have := zne_i (n := 1) (by decide) hs1_1
    have := zne_i (n := 2) (by decide) hs1_2
    have := zne_i (n := 3) (by decide) hs1_3
    have := zne_i (n := 4) (by decide) hs1_4
    have := zne_i (n := 5) (by decide) hs1_5
    have := zne_i (n := 6) (by decide) hs1_6
    have := zne_i (n := 7) (by decide) hs1_7
    have := zne_i (n := 8) (by decide) hs1_8
    omega
  refine zX_tsd (p := 142) d_143_1 hz1 (by decide) ?_
  refine zX_aln0 (p := 143) d_143_142 rfl (zX_iln1 (p := 144) d_143_143 rfl (zX_cV1m (p := 147) ⟨ow_144, by decide, zdr_144⟩ zo_0 d_143_144 ow_143 rs_0_362 kk_144 rfl (s144 hL) rfl rfl rfl rfl (fun v1 M2 => ?_)))
  try dsimp only
  exact zX_retm d_143_147 rt_143

