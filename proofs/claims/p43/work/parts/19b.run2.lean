-- ===== RUNS of the law's methods and the JDK's keep their functions =====
theorem s115 {sc : ZS} {d : Nat} {a0 : Int32} {a1 : Int32} {a2 : Int32} {M : ZI} {R : ZF} {L : ZY} : zG sc d 115 0 [.val (.int a0), .val (.int a1), .val (.int a2)] [] (M, R, L) (g115_between a0 a1 a2) (gEi (M, R, L)) := by
  unfold g115_between
  refine zG_iln1 (p := 1) d_115_0 rfl (zG_iln0 (p := 2) d_115_1 rfl (zG_ldc (p := 4) d_115_2 ow_115 ks_14_7 kn_14_7 rfl (zG_and (p := 5) d_115_4 rfl (zG_iln2 (p := 6) d_115_5 rfl (zG_iln1 (p := 7) d_115_6 rfl (zG_sub (p := 8) d_115_7 rfl (zG_ic (p := 9) d_115_8 ci_1 rfl ?_)))))))
  refine zG_add (p := 10) d_115_9 rfl (zG_remg (p := 11) d_115_10 rfl (zG_add (p := 12) d_115_11 rfl ?_))
  exact zG_reti d_115_12 rt_115

theorem s118 {sc : ZS} {d : Nat} {t : Nat} {a1 : Int32} {M : ZI} {R : ZF} {L : ZY} : zG sc d 118 0 [.val (.ref t), .val (.int a1)] [] (M, R, L) (g118_init t a1 M R L) gEv := by
  unfold g118_init
  refine zG_aln0 (p := 1) d_118_0 rfl (zG_grd fun hg1 => (zG_obj (p := 4) d_118_1 ow_118 rs2_15_3 hg1 rfl rfl (zG_stai (p := 7) d_118_4 ow_118 sta_15_18 rfl rfl ?_)))
  refine zG_zeq (p1 := 25) (p2 := 10) d_118_7 (by decide) rfl ?_ ?_
  · refine zG_aln0 (p := 26) d_118_25 rfl (zG_iln1 (p := 27) d_118_26 rfl ?_)
    exact zG_none
  · refine zG_aln0 (p := 11) d_118_10 rfl (zG_iln1 (p := 12) d_118_11 rfl (zG_grd fun hg2 => (zG_grd fun hg3 => (zG_nb (p := 14) d_118_12 hg2 hg3 rfl (fun r4 M5 R6 L7 => ?_)))))
    refine zG_grd fun hg8 => (zG_grd fun hg9 => (zG_pr (p := 17) d_118_14 ow_118 gf2_15_15 fo_118_11_0 hg8 hg9 rfl (fun R10 => ?_)))
    refine zG_aln0 (p := 18) d_118_17 rfl (zG_ic (p := 19) d_118_18 ci_0 rfl (zG_pi (p := 22) d_118_19 ow_118 gf2_15_22 (Or.inr (Or.inl rfl)) (Or.inr (Or.inr rfl)) fo_118_11_1 hg8 rfl (fun M11 => ?_)))
    refine zG_goto (p := 38) d_118_22 (by decide) ?_
    exact zG_retv d_118_38 rt_118

theorem s117 {sc : ZS} {d : Nat} {t : Nat} {M : ZI} {R : ZF} {L : ZY} : zG sc (d + 1) 117 0 [.val (.ref t)] [] (M, R, L) (g117_init t M R L) gEv := by
  unfold g117_init
  refine zG_aln0 (p := 1) d_117_0 rfl (zG_bi (p := 3) d_117_1 cb_16 rfl (zG_grd fun hg1 => (zG_cI1v (p := 6) hg1 d_117_3 ow_117 rs2_11_1 kk_118 rfl s118 rfl rfl rfl rfl (fun M2 R3 L4 => ?_))))
  try dsimp only
  exact zG_retv d_117_6 rt_117

theorem s121_l16 {sc : ZS} {d : Nat} {x2 : Int32} {x3 : Int32} {M : ZI} {R : ZF} {L : ZY} {k8 : Unit → Option Int32} (hk8 : ∀ (_ : Unit) (u6 : Slot) (u7 : Slot), zG sc d 121 42 [.val (.int x2), .val (.int x3), u6, u7] [] (M, R, L) (k8 ()) (gEi (M, R, L))) : ∀ (n : Nat) (x4 : Int32) (x5 : Int32), zG sc d 121 16 [.val (.int x2), .val (.int x3), .val (.int x4), .val (.int x5)] [] (M, R, L) (g121_l16 x2 x3 k8 n x4 x5) (gEi (M, R, L)) := by
  intro n
  induction n with
  | zero => intros; exact zG_none
  | succ n ih =>
    intro x4 x5
    rw [g121_l16]
    refine zG_iln3 (p := 17) d_121_16 rfl (zG_bi (p := 19) d_121_17 cb_10 rfl ?_)
    refine zG_cge (p1 := 42) (p2 := 22) d_121_19 (by decide) rfl ?_ ?_
    · exact hk8 () (.val (.int x4)) (.val (.int x5))
    · refine zG_iln0 (p := 23) d_121_22 rfl (zG_iln2 (p := 24) d_121_23 rfl ?_)
      refine zG_cle (p1 := 31) (p2 := 27) d_121_24 (by decide) rfl ?_ ?_
      · refine zG_bi (p := 33) d_121_31 cb_10 rfl (zG_iln2 (p := 34) d_121_33 rfl (zG_mul (p := 35) d_121_34 rfl (zG_jsn2 (p := 36) d_121_35 rfl (fun x9 => ?_))))
        refine zG_ii3 (p := 39) d_121_36 ci_1 rfl (zG_goto (p := 16) d_121_39 (by decide) ?_)
        exact ih x9 (x5 + (1 : Int32))
      · refine zG_iln3 (p := 28) d_121_27 rfl (zG_iln1 (p := 29) d_121_28 rfl (zG_add (p := 30) d_121_29 rfl ?_))
        exact zG_reti d_121_30 rt_121

theorem s121 {sc : ZS} {d : Nat} {a0 : Int32} {M : ZI} {R : ZF} {L : ZY} : zG sc d 121 0 [.val (.int a0), .unset, .unset, .unset] [] (M, R, L) (g121_stringSize a0) (gEi (M, R, L)) := by
  unfold g121_stringSize
  refine zG_ic (p := 1) d_121_0 ci_1 rfl (zG_isn1 (p := 2) d_121_1 rfl (zG_iln0 (p := 3) d_121_2 rfl ?_))
  refine zG_bind (σ := Unit) (β := Int32 × Int32) (pj := 11) (lj := fun (b : Int32 × Int32) (s : Unit) => [.val (.int b.1), .val (.int b.2), .unset, .unset]) (sj := fun b => []) (hj := fun b => (M, R, L)) ?_ ?_
  · refine zG_zlt (p1 := 11) (p2 := 6) d_121_3 (by decide) rfl ?_ ?_
    · exact zG_leaf (fun _ _ h => h ())
    · refine zG_ic (p := 7) d_121_6 ci_0 rfl (zG_isn1 (p := 8) d_121_7 rfl (zG_iln0 (p := 9) d_121_8 rfl (zG_neg (p := 10) d_121_9 rfl (zG_jsn0 (p := 11) d_121_10 rfl (fun x1 => ?_)))))
      exact zG_leaf (fun _ _ h => h ())
  · rintro ⟨x2, x3⟩ _
    try dsimp only
    refine zG_bi (p := 13) d_121_11 cb_m10 rfl (zG_isn2 (p := 14) d_121_13 rfl (zG_ic (p := 15) d_121_14 ci_1 rfl (zG_isn3 (p := 16) d_121_15 rfl ?_)))
    refine s121_l16 (fun _ u10 u11 => ?_) zfu (-10 : Int32) (1 : Int32)
    try dsimp only
    refine zG_bi (p := 44) d_121_42 cb_10 rfl (zG_iln1 (p := 45) d_121_44 rfl (zG_add (p := 46) d_121_45 rfl ?_))
    exact zG_reti d_121_46 rt_121

theorem s124 {sc : ZS} {d : Nat} {a0 : Int32} {a1 : Int32} {a2 : Int32} {M : ZI} {R : ZF} {L : ZY} : zG sc d 124 0 [.val (.int a0), .val (.int a1), .val (.int a2), .unset] [] (M, R, L) (g124_newLength a0 a1 a2) (gEi (M, R, L)) := by
  unfold g124_newLength
  refine zG_iln0 (p := 1) d_124_0 rfl (zG_iln1 (p := 2) d_124_1 rfl (zG_iln2 (p := 3) d_124_2 rfl (zG_max (p := 6) d_124_3 ow_124 rs2_19_194 rfl rfl (zG_add (p := 7) d_124_6 rfl (zG_jsn3 (p := 8) d_124_7 rfl (fun x1 => ?_))))))
  refine zG_ic (p := 9) d_124_8 ci_0 rfl (zG_iln3 (p := 10) d_124_9 rfl ?_)
  refine zG_jn (P := fun g => ∀ (_ : Unit), zG sc d 124 21 [.val (.int a0), .val (.int a1), .val (.int a2), .val (.int x1)] [] (M, R, L) (g ()) (gEi (M, R, L))) ?_ (fun j2 hj2 => ?_)
  · intro _
    try dsimp only
    refine zG_iln0 (p := 22) d_124_21 rfl (zG_iln1 (p := 23) d_124_22 rfl ?_)
    exact zG_none
  · refine zG_cge (p1 := 21) (p2 := 13) d_124_10 (by decide) rfl ?_ ?_
    · exact hj2 ()
    · refine zG_iln3 (p := 14) d_124_13 rfl (zG_ldc (p := 16) d_124_14 ow_124 ks_19_200 kn_19_200 rfl ?_)
      refine zG_cgt (p1 := 21) (p2 := 19) d_124_16 (by decide) rfl ?_ ?_
      · exact hj2 ()
      · refine zG_iln3 (p := 20) d_124_19 rfl ?_
        exact zG_reti d_124_20 rt_124

theorem s123 {sc : ZS} {d : Nat} {t : Nat} {a1 : Int32} {M : ZI} {R : ZF} {L : ZY} : zG sc (d + 1) 123 0 [.val (.ref t), .val (.int a1), .unset, .unset, .unset, .unset] [] (M, R, L) (g123_newCapacity t a1 M R L) (gEi (M, R, L)) := by
  unfold g123_newCapacity
  refine zG_aln0 (p := 1) d_123_0 rfl (zG_grd fun hg1 => (zG_grb (p := 4) d_123_1 ow_123 gf2_15_15 hg1 rfl (fun r2 => ?_)))
  refine zG_grd fun hg3 => (zG_blen (p := 5) d_123_4 hg3 rfl (zG_jsn2 (p := 6) d_123_5 rfl (fun x4 => ?_)))
  refine zG_iln1 (p := 7) d_123_6 rfl (zG_aln0 (p := 8) d_123_7 rfl (zG_gi (p := 11) d_123_8 ow_123 gf2_15_22 hg1 rfl (zG_shl (p := 12) d_123_11 rfl (zG_jsn3 (p := 13) d_123_12 rfl (fun x5 => ?_)))))
  refine zG_iln3 (p := 14) d_123_13 rfl (zG_iln2 (p := 15) d_123_14 rfl (zG_sub (p := 16) d_123_15 rfl (zG_js4 (p := 18) d_123_16 rfl (fun x6 => ?_))))
  refine zG_iln2 (p := 19) d_123_18 rfl (zG_il4 (p := 21) d_123_19 rfl (zG_iln2 (p := 22) d_123_21 rfl (zG_ic (p := 23) d_123_22 ci_2 rfl (zG_aln0 (p := 24) d_123_23 rfl (zG_gi (p := 27) d_123_24 ow_123 gf2_15_22 hg1 rfl (zG_shl (p := 28) d_123_27 rfl (zG_add (p := 29) d_123_28 rfl ?_)))))))
  refine zG_cS3i (p := 32) d_123_29 ow_123 rs2_15_114 kk_124 rfl s124 rfl rfl rfl rfl (fun v7 => ?_)
  refine zG_is5 (p := 34) d_123_32 rfl (zG_il5 (p := 36) d_123_34 rfl (zG_ldc (p := 38) d_123_36 ow_123 ks_15_39 kn_15_39 rfl ?_))
  refine zG_cne (p1 := 51) (p2 := 41) d_123_38 (by decide) rfl ?_ ?_
  · refine zG_il5 (p := 53) d_123_51 rfl (zG_aln0 (p := 54) d_123_53 rfl (zG_gi (p := 57) d_123_54 ow_123 gf2_15_22 hg1 rfl (zG_shr (p := 58) d_123_57 rfl ?_)))
    exact zG_reti d_123_58 rt_123
  · exact zG_none

theorem s125 {sc : ZS} {d : Nat} {a0 : Nat} {a1 : Int32} {M : ZI} {R : ZF} {L : ZY} : zG sc d 125 0 [.val (.ref a0), .val (.int a1), .unset] [] (M, R, L) (g125_copyOf a0 a1 M R L) gEq := by
  unfold g125_copyOf
  refine zG_iln1 (p := 1) d_125_0 rfl (zG_aln0 (p := 2) d_125_1 rfl (zG_grd fun hg1 => (zG_blen (p := 3) d_125_2 hg1 rfl ?_)))
  refine zG_cne (p1 := 14) (p2 := 6) d_125_3 (by decide) rfl ?_ ?_
  · refine zG_iln1 (p := 15) d_125_14 rfl (zG_grd fun hg2 => (zG_grd fun hg3 => (zG_nb (p := 17) d_125_15 hg2 hg3 rfl (fun r4 M5 R6 L7 => ?_))))
    refine zG_asn2 (p := 18) d_125_17 rfl (zG_aln0 (p := 19) d_125_18 rfl (zG_ic (p := 20) d_125_19 ci_0 rfl (zG_aln2 (p := 21) d_125_20 rfl (zG_ic (p := 22) d_125_21 ci_0 rfl (zG_aln0 (p := 23) d_125_22 rfl (zG_grd fun hg8 => (zG_blen (p := 24) d_125_23 hg8 rfl ?_)))))))
    refine zG_iln1 (p := 25) d_125_24 rfl (zG_min (p := 28) d_125_25 ow_125 rs2_18_304 rfl rfl (zG_grd fun hg9 => (zG_cpy (p := 31) d_125_28 ow_125 rs2_18_150 hg9 rfl rfl (fun M10 => ?_))))
    refine zG_aln2 (p := 32) d_125_31 rfl ?_
    exact zG_retq d_125_32 rfl
  · refine zG_aln0 (p := 7) d_125_6 rfl (zG_grd fun hg11 => (zG_grd fun hg12 => (zG_grd fun hg13 => (zG_cl50 (p := 10) d_125_7 ow_125 rs2_18_310 hg11 hg12 hg13 rfl rfl (fun r14 M15 R16 L17 => ?_)))))
    refine zG_grd fun hg18 => (zG_cast (p := 13) d_125_10 ow_125 ⟨ac_18_311, rfl⟩ hg18 rfl ?_)
    exact zG_retq d_125_13 rfl

theorem s122 {sc : ZS} {d : Nat} {t : Nat} {a1 : Int32} {M : ZI} {R : ZF} {L : ZY} : zG sc (d + 2) 122 0 [.val (.ref t), .val (.int a1), .unset] [] (M, R, L) (g122_ensureCapacityInternal t a1 M R L) gEv := by
  unfold g122_ensureCapacityInternal
  refine zG_aln0 (p := 1) d_122_0 rfl (zG_grd fun hg1 => (zG_grb (p := 4) d_122_1 ow_122 gf2_15_15 hg1 rfl (fun r2 => ?_)))
  refine zG_grd fun hg3 => (zG_blen (p := 5) d_122_4 hg3 rfl (zG_aln0 (p := 6) d_122_5 rfl (zG_gi (p := 9) d_122_6 ow_122 gf2_15_22 hg1 rfl (zG_shr (p := 10) d_122_9 rfl (zG_jsn2 (p := 11) d_122_10 rfl (fun x4 => ?_))))))
  refine zG_iln1 (p := 12) d_122_11 rfl (zG_iln2 (p := 13) d_122_12 rfl (zG_sub (p := 14) d_122_13 rfl ?_))
  refine zG_zle (p1 := 38) (p2 := 17) d_122_14 (by decide) rfl ?_ ?_
  · exact zG_retv d_122_38 rt_122
  · refine zG_aln0 (p := 18) d_122_17 rfl (zG_aln0 (p := 19) d_122_18 rfl (zG_grb (p := 22) d_122_19 ow_122 gf2_15_15 hg1 rfl (fun r5 => ?_)))
    refine zG_aln0 (p := 23) d_122_22 rfl (zG_iln1 (p := 24) d_122_23 rfl (zG_cU1i (p := 27) vk_123 hg1 d_122_24 ow_122 rs2_15_104 kk_123 rfl s123 rfl rfl rfl rfl (fun v6 => ?_)))
    refine zG_aln0 (p := 28) d_122_27 rfl (zG_gi (p := 31) d_122_28 ow_122 gf2_15_22 hg1 rfl (zG_shl (p := 32) d_122_31 rfl (zG_cS2q (p := 35) d_122_32 ow_122 rs2_15_108 kk_125 rfl s125 rfl rfl rfl rfl (fun r7 M8 R9 L10 => ?_))))
    try dsimp only
    refine zG_grd fun hg11 => (zG_grd fun hg12 => (zG_pr (p := 38) d_122_35 ow_122 gf2_15_15 fo_122_11_0 hg11 hg12 rfl (fun R13 => ?_)))
    exact zG_retv d_122_38 rt_122

theorem s126 {sc : ZS} {d : Nat} {t : Nat} {M : ZI} {R : ZF} {L : ZY} : zG sc d 126 0 [.val (.ref t)] [] (M, R, L) (g126_isLatin1 t M R L) (gEi (M, R, L)) := by
  unfold g126_isLatin1
  refine zG_stai (p := 3) d_126_0 ow_126 sta_15_18 rfl rfl ?_
  refine zG_zeq (p1 := 17) (p2 := 6) d_126_3 (by decide) rfl ?_ ?_
  · refine zG_ic (p := 18) d_126_17 ci_0 rfl ?_
    exact zG_retib d_126_18 rt_126 rfl
  · refine zG_aln0 (p := 7) d_126_6 rfl (zG_grd fun hg1 => (zG_gi (p := 10) d_126_7 ow_126 gf2_15_22 hg1 rfl ?_))
    refine zG_zne (p1 := 17) (p2 := 13) d_126_10 (by decide) rfl ?_ ?_
    · refine zG_ic (p := 18) d_126_17 ci_0 rfl ?_
      exact zG_retib d_126_18 rt_126 rfl
    · refine zG_ic (p := 14) d_126_13 ci_1 rfl (zG_goto (p := 18) d_126_14 (by decide) ?_)
      exact zG_retib d_126_18 rt_126 rfl

theorem s127_l22 {sc : ZS} {d : Nat} {a1 : Int32} {a2 : Nat} {R : ZF} {L : ZY} {v1 : Int32} : ∀ (n : Nat) (x4 : Int32) (x5 : Int32) (M8 : ZI) (u6 : Slot) (u7 : Slot), zG sc d 127 22 [.val (.int x4), .val (.int a1), .val (.ref a2), u6, u7, .val (.int x5), .val (.int v1)] [] (M8, R, L) (g127_l22 a2 L n x4 x5 M8) (gEj sc d 127 72 (fun (b : Int32 × Int32 × ZI) (s : Slot × Slot) => [.val (.int b.1), .val (.int a1), .val (.ref a2), s.1, s.2, .val (.int b.2.1), .val (.int v1)]) (fun b => []) (fun b => (b.2.2, R, L))) := by
  intro n
  induction n with
  | zero => intros; exact zG_none
  | succ n ih =>
    intro x4 x5 M8 u6 u7
    rw [g127_l22]
    refine zG_iln0 (p := 23) d_127_22 rfl (zG_bi (p := 25) d_127_23 cb_m100 rfl ?_)
    refine zG_cgt (p1 := 72) (p2 := 28) d_127_25 (by decide) rfl ?_ ?_
    · exact zG_leaf (fun _ _ h => h (u6, u7))
    · refine zG_iln0 (p := 29) d_127_28 rfl (zG_bi (p := 31) d_127_29 cb_100 rfl (zG_div (p := 32) d_127_31 (by decide) rfl (zG_jsn3 (p := 33) d_127_32 rfl (fun x9 => ?_))))
      refine zG_iln3 (p := 34) d_127_33 rfl (zG_bi (p := 36) d_127_34 cb_100 rfl (zG_mul (p := 37) d_127_36 rfl (zG_iln0 (p := 38) d_127_37 rfl (zG_sub (p := 39) d_127_38 rfl (zG_js4 (p := 41) d_127_39 rfl (fun x10 => ?_))))))
      refine zG_iln3 (p := 42) d_127_41 rfl (zG_isn0 (p := 43) d_127_42 rfl (zG_aln2 (p := 44) d_127_43 rfl (zG_ii5 (p := 47) d_127_44 ci_m1 rfl (zG_il5 (p := 49) d_127_47 rfl (zG_star (p := 52) d_127_49 ow_127 sta_16_83 rfl rfl (zG_il4 (p := 54) d_127_52 rfl (zG_grd fun hg11 => (zG_ba (p := 55) d_127_54 hg11 rfl ?_))))))))
      refine zG_grd fun hg12 => (zG_bst (p := 56) d_127_55 hg12 rfl (fun M13 => ?_))
      refine zG_aln2 (p := 57) d_127_56 rfl (zG_ii5 (p := 60) d_127_57 ci_m1 rfl (zG_il5 (p := 62) d_127_60 rfl (zG_star (p := 65) d_127_62 ow_127 sta_16_87 rfl rfl (zG_il4 (p := 67) d_127_65 rfl (zG_grd fun hg14 => (zG_ba (p := 68) d_127_67 hg14 rfl (zG_grd fun hg15 => (zG_bst (p := 69) d_127_68 hg15 rfl (fun M16 => ?_)))))))))
      refine zG_goto (p := 22) d_127_69 (by decide) ?_
      exact ih x9 ((x5 + (-1 : Int32)) + (-1 : Int32)) M16 (.val (.int x9)) (.val (.int x10))

theorem s127 {sc : ZS} {d : Nat} {a0 : Int32} {a1 : Int32} {a2 : Nat} {M : ZI} {R : ZF} {L : ZY} : zG sc d 127 0 [.val (.int a0), .val (.int a1), .val (.ref a2), .unset, .unset, .unset, .unset] [] (M, R, L) (g127_getChars a0 a1 a2 M R L) gEm := by
  unfold g127_getChars
  refine zG_iln1 (p := 1) d_127_0 rfl (zG_is5 (p := 3) d_127_1 rfl (zG_iln0 (p := 4) d_127_3 rfl ?_))
  refine zG_bind (σ := Unit) (β := Int32) (pj := 12) (lj := fun (b : Int32) (s : Unit) => [.val (.int a0), .val (.int a1), .val (.ref a2), .unset, .unset, .val (.int a1), .unset]) (sj := fun b => [.int b]) (hj := fun b => (M, R, L)) ?_ ?_
  · refine zG_zge (p1 := 11) (p2 := 7) d_127_4 (by decide) rfl ?_ ?_
    · refine zG_ic (p := 12) d_127_11 ci_0 rfl ?_
      exact zG_leaf (fun _ _ h => h ())
    · refine zG_ic (p := 8) d_127_7 ci_1 rfl (zG_goto (p := 12) d_127_8 (by decide) ?_)
      exact zG_leaf (fun _ _ h => h ())
  · rintro v1 _
    try dsimp only
    refine zG_is6 (p := 14) d_127_12 rfl (zG_il6 (p := 16) d_127_14 rfl ?_)
    refine zG_bind (σ := Unit) (β := Int32) (pj := 22) (lj := fun (b : Int32) (s : Unit) => [.val (.int b), .val (.int a1), .val (.ref a2), .unset, .unset, .val (.int a1), .val (.int v1)]) (sj := fun b => []) (hj := fun b => (M, R, L)) ?_ ?_
    · refine zG_zne (p1 := 22) (p2 := 19) d_127_16 (by decide) rfl ?_ ?_
      · exact zG_leaf (fun _ _ h => h ())
      · refine zG_iln0 (p := 20) d_127_19 rfl (zG_neg (p := 21) d_127_20 rfl (zG_jsn0 (p := 22) d_127_21 rfl (fun x2 => ?_)))
        exact zG_leaf (fun _ _ h => h ())
    · rintro x3 _
      try dsimp only
      refine zG_bind (s127_l22 zfu x3 a1 M (.unset) (.unset)) ?_
      rintro ⟨x17, x18, M19⟩ ⟨u20, u21⟩
      try dsimp only
      refine zG_aln2 (p := 73) d_127_72 rfl (zG_ii5 (p := 76) d_127_73 ci_m1 rfl (zG_il5 (p := 78) d_127_76 rfl (zG_star (p := 81) d_127_78 ow_127 sta_16_83 rfl rfl (zG_iln0 (p := 82) d_127_81 rfl (zG_neg (p := 83) d_127_82 rfl (zG_grd fun hg22 => (zG_ba (p := 84) d_127_83 hg22 rfl ?_)))))))
      refine zG_grd fun hg23 => (zG_bst (p := 85) d_127_84 hg23 rfl (fun M24 => ?_))
      refine zG_iln0 (p := 86) d_127_85 rfl (zG_bi (p := 88) d_127_86 cb_m9 rfl ?_)
      refine zG_bind (σ := Unit) (β := Int32 × ZI) (pj := 104) (lj := fun (b : Int32 × ZI) (s : Unit) => [.val (.int x17), .val (.int a1), .val (.ref a2), u20, u21, .val (.int b.1), .val (.int v1)]) (sj := fun b => []) (hj := fun b => (b.2, R, L)) ?_ ?_
      · refine zG_cge (p1 := 104) (p2 := 91) d_127_88 (by decide) rfl ?_ ?_
        · exact zG_leaf (fun _ _ h => h ())
        · refine zG_aln2 (p := 92) d_127_91 rfl (zG_ii5 (p := 95) d_127_92 ci_m1 rfl (zG_il5 (p := 97) d_127_95 rfl (zG_star (p := 100) d_127_97 ow_127 sta_16_87 rfl rfl (zG_iln0 (p := 101) d_127_100 rfl (zG_neg (p := 102) d_127_101 rfl (zG_grd fun hg25 => (zG_ba (p := 103) d_127_102 hg25 rfl ?_)))))))
          refine zG_grd fun hg26 => (zG_bst (p := 104) d_127_103 hg26 rfl (fun M27 => ?_))
          exact zG_leaf (fun _ _ h => h ())
      · rintro ⟨x28, M29⟩ _
        try dsimp only
        refine zG_il6 (p := 106) d_127_104 rfl ?_
        refine zG_zeq (p1 := 118) (p2 := 109) d_127_106 (by decide) rfl ?_ ?_
        · refine zG_il5 (p := 120) d_127_118 rfl ?_
          exact zG_retm d_127_120 rt_127
        · refine zG_aln2 (p := 110) d_127_109 rfl (zG_ii5 (p := 113) d_127_110 ci_m1 rfl (zG_il5 (p := 115) d_127_113 rfl (zG_bi (p := 117) d_127_115 cb_45 rfl (zG_grd fun hg30 => (zG_bst (p := 118) d_127_117 hg30 rfl (fun M31 => ?_))))))
          refine zG_il5 (p := 120) d_127_118 rfl ?_
          exact zG_retm d_127_120 rt_127

theorem s120 {sc : ZS} {d : Nat} {t : Nat} {a1 : Int32} {M : ZI} {R : ZF} {L : ZY} : zG sc (d + 3) 120 0 [.val (.ref t), .val (.int a1), .unset, .unset] [] (M, R, L) (g120_append t a1 M R L) gEq := by
  unfold g120_append
  refine zG_aln0 (p := 1) d_120_0 rfl (zG_grd fun hg1 => (zG_gi (p := 4) d_120_1 ow_120 gf2_15_79 hg1 rfl (zG_jsn2 (p := 5) d_120_4 rfl (fun x2 => ?_))))
  refine zG_iln2 (p := 6) d_120_5 rfl (zG_iln1 (p := 7) d_120_6 rfl (zG_cS1i (p := 10) d_120_7 ow_120 rs2_15_245 kk_121 rfl s121 rfl rfl rfl rfl (fun v3 => ?_)))
  refine zG_add (p := 11) d_120_10 rfl (zG_jsn3 (p := 12) d_120_11 rfl (fun x4 => ?_))
  refine zG_aln0 (p := 13) d_120_12 rfl (zG_iln3 (p := 14) d_120_13 rfl (zG_cU1v (p := 17) vk_122 hg1 d_120_14 ow_120 rs2_15_100 kk_122 rfl s122 rfl rfl rfl rfl (fun M5 R6 L7 => ?_)))
  try dsimp only
  refine zG_aln0 (p := 18) d_120_17 rfl (zG_grd fun hg8 => (zG_cU0i (p := 21) vk_126 hg8 d_120_18 ow_120 rs2_15_83 kk_126 rfl s126 rfl rfl rfl rfl (fun v9 => ?_)))
  refine zG_zeq (p1 := 37) (p2 := 24) d_120_21 (by decide) rfl ?_ ?_
  · refine zG_iln1 (p := 38) d_120_37 rfl (zG_iln2 (p := 39) d_120_38 rfl (zG_iln3 (p := 40) d_120_39 rfl (zG_aln0 (p := 41) d_120_40 rfl (zG_grb (p := 44) d_120_41 ow_120 gf2_15_15 hg8 rfl (fun r10 => ?_)))))
    exact zG_none
  · refine zG_iln1 (p := 25) d_120_24 rfl (zG_iln3 (p := 26) d_120_25 rfl (zG_aln0 (p := 27) d_120_26 rfl (zG_grb (p := 30) d_120_27 ow_120 gf2_15_15 hg8 rfl (fun r11 => ?_))))
    refine zG_cS3m (p := 33) d_120_30 ow_120 rs2_15_248 kk_127 rfl s127 rfl rfl rfl rfl (fun v12 M13 R14 L15 => ?_)
    try dsimp only
    refine zG_pop (p := 34) d_120_33 rfl rfl (zG_goto (p := 48) d_120_34 (by decide) (zG_aln0 (p := 49) d_120_48 rfl (zG_iln3 (p := 50) d_120_49 rfl (zG_grd fun hg16 => (zG_pi (p := 53) d_120_50 ow_120 gf2_15_79 (Or.inl rfl) (Or.inl rfl) fo_120_11_3 hg16 rfl (fun M17 => ?_))))))
    refine zG_aln0 (p := 54) d_120_53 rfl ?_
    exact zG_retq d_120_54 rfl

theorem s119 {sc : ZS} {d : Nat} {t : Nat} {a1 : Int32} {M : ZI} {R : ZF} {L : ZY} : zG sc (d + 4) 119 0 [.val (.ref t), .val (.int a1)] [] (M, R, L) (g119_append t a1 M R L) gEq := by
  unfold g119_append
  refine zG_aln0 (p := 1) d_119_0 rfl (zG_iln1 (p := 2) d_119_1 rfl (zG_grd fun hg1 => (zG_cP1q (p := 5) (by decide) rfl hg1 d_119_2 ow_119 rs2_11_53 kk_120 rfl s120 rfl rfl rfl rfl (fun r2 M3 R4 L5 => ?_))))
  try dsimp only
  refine zG_pop (p := 6) d_119_5 rfl rfl (zG_aln0 (p := 7) d_119_6 rfl ?_)
  exact zG_retq d_119_7 rfl

theorem s131 {sc : ZS} {d : Nat} {t : Nat} {a1 : Nat} {M : ZI} {R : ZF} {L : ZY} : zG sc (d + 1) 131 0 [.val (.ref t), .val (.ref a1)] [] (M, R, L) (g131_inflateIfNeededFor t a1 M R L) gEv := by
  unfold g131_inflateIfNeededFor
  refine zG_stai (p := 3) d_131_0 ow_131 sta_15_18 rfl rfl ?_
  refine zG_zeq (p1 := 21) (p2 := 6) d_131_3 (by decide) rfl ?_ ?_
  · exact zG_retv d_131_21 rt_131
  · refine zG_aln0 (p := 7) d_131_6 rfl (zG_grd fun hg1 => (zG_gi (p := 10) d_131_7 ow_131 gf2_15_22 hg1 rfl (zG_aln1 (p := 11) d_131_10 rfl (zG_grd fun hg2 => (zG_cV0i (p := 14) (c := 12) ⟨ow_58, by decide, zdr_58⟩ hg2 d_131_11 ow_131 rs2_15_40 kk_58 vn_58 rfl s58 rfl rfl rfl rfl (fun v3 => ?_))))))
    refine zG_ceq (p1 := 21) (p2 := 17) d_131_14 (by decide) rfl ?_ ?_
    · exact zG_retv d_131_21 rt_131
    · refine zG_aln0 (p := 18) d_131_17 rfl ?_
      exact zG_none

theorem s132 {sc : ZS} {d : Nat} {t : Nat} {a1 : Nat} {a2 : Int32} {a3 : Int32} {M : ZI} {R : ZF} {L : ZY} : zG sc (d + 1) 132 0 [.val (.ref t), .val (.ref a1), .val (.int a2), .val (.int a3)] [] (M, R, L) (g132_getBytes t a1 a2 a3 M R L) gEv := by
  unfold g132_getBytes
  refine zG_aln0 (p := 1) d_132_0 rfl (zG_grd fun hg1 => (zG_cV0i (p := 4) (c := 12) ⟨ow_58, by decide, zdr_58⟩ hg1 d_132_1 ow_132 rs2_12_335 kk_58 vn_58 rfl s58 rfl rfl rfl rfl (fun v2 => ?_)))
  refine zG_iln3 (p := 5) d_132_4 rfl ?_
  refine zG_cne (p1 := 28) (p2 := 8) d_132_5 (by decide) rfl ?_ ?_
  · refine zG_aln0 (p := 29) d_132_28 rfl (zG_sgb (p := 32) d_132_29 ow_132 rfl gf2_12_9 hg1 rfl (fun r3 => ?_))
    refine zG_ic (p := 33) d_132_32 ci_0 rfl (zG_aln1 (p := 34) d_132_33 rfl (zG_iln2 (p := 35) d_132_34 rfl (zG_aln0 (p := 36) d_132_35 rfl (zG_sgb (p := 39) d_132_36 ow_132 rfl gf2_12_9 hg1 rfl (fun r4 => ?_)))))
    refine zG_grd fun hg5 => (zG_blen (p := 40) d_132_39 hg5 rfl ?_)
    exact zG_none
  · refine zG_aln0 (p := 9) d_132_8 rfl (zG_sgb (p := 12) d_132_9 ow_132 rfl gf2_12_9 hg1 rfl (fun r6 => ?_))
    refine zG_ic (p := 13) d_132_12 ci_0 rfl (zG_aln1 (p := 14) d_132_13 rfl (zG_iln2 (p := 15) d_132_14 rfl (zG_iln3 (p := 16) d_132_15 rfl (zG_shl (p := 17) d_132_16 rfl (zG_aln0 (p := 18) d_132_17 rfl (zG_sgb (p := 21) d_132_18 ow_132 rfl gf2_12_9 hg1 rfl (fun r7 => ?_)))))))
    refine zG_grd fun hg8 => (zG_blen (p := 22) d_132_21 hg8 rfl (zG_grd fun hg9 => (zG_cpy (p := 25) d_132_22 ow_132 rs2_12_212 hg9 rfl rfl (fun M10 => ?_))))
    refine zG_goto (p := 43) d_132_25 (by decide) ?_
    exact zG_retv d_132_43 rt_132

theorem s130 {sc : ZS} {d : Nat} {t : Nat} {a1 : Int32} {a2 : Nat} {M : ZI} {R : ZF} {L : ZY} : zG sc (d + 2) 130 0 [.val (.ref t), .val (.int a1), .val (.ref a2)] [] (M, R, L) (g130_putStringAt t a1 a2 M R L) gEv := by
  unfold g130_putStringAt
  refine zG_aln0 (p := 1) d_130_0 rfl (zG_aln2 (p := 2) d_130_1 rfl (zG_grd fun hg1 => (zG_cU1v (p := 5) vk_131 hg1 d_130_2 ow_130 rs2_15_397 kk_131 rfl s131 rfl rfl rfl rfl (fun M2 R3 L4 => ?_))))
  try dsimp only
  refine zG_aln2 (p := 6) d_130_5 rfl (zG_aln0 (p := 7) d_130_6 rfl (zG_grd fun hg5 => (zG_grb (p := 10) d_130_7 ow_130 gf2_15_15 hg5 rfl (fun r6 => ?_))))
  refine zG_iln1 (p := 11) d_130_10 rfl (zG_aln0 (p := 12) d_130_11 rfl (zG_gi (p := 15) d_130_12 ow_130 gf2_15_22 hg5 rfl (zG_grd fun hg7 => (zG_cV3v (p := 18) (c := 12) ⟨ow_132, by decide, zdr_132⟩ hg7 d_130_15 ow_130 rs2_15_399 kk_132 vn_132 rfl s132 rfl rfl rfl rfl (fun M8 R9 L10 => ?_)))))
  try dsimp only
  exact zG_retv d_130_18 rt_130

theorem s129 {sc : ZS} {d : Nat} {t : Nat} {a1 : Nat} {M : ZI} {R : ZF} {L : ZY} : zG sc (d + 3) 129 0 [.val (.ref t), .val (.ref a1), .unset] [] (M, R, L) (g129_append t a1 M R L) gEq := by
  unfold g129_append
  refine zG_aln1 (p := 1) d_129_0 rfl (zG_nn_ref (p := 9) d_129_1 (by decide) (zG_aln1 (p := 10) d_129_9 rfl (zG_grd fun hg1 => (zG_cV0i (p := 13) (c := 12) ⟨ow_57, by decide, zdr_57⟩ hg1 d_129_10 ow_129 rs2_15_32 kk_57 vn_57 rfl s57 rfl rfl rfl rfl (fun v2 => ?_)))))
  refine zG_isn2 (p := 14) d_129_13 rfl (zG_aln0 (p := 15) d_129_14 rfl (zG_aln0 (p := 16) d_129_15 rfl (zG_grd fun hg3 => (zG_gi (p := 19) d_129_16 ow_129 gf2_15_79 hg3 rfl (zG_iln2 (p := 20) d_129_19 rfl (zG_add (p := 21) d_129_20 rfl (zG_cU1v (p := 24) vk_122 hg3 d_129_21 ow_129 rs2_15_100 kk_122 rfl s122 rfl rfl rfl rfl (fun M4 R5 L6 => ?_))))))))
  try dsimp only
  refine zG_aln0 (p := 25) d_129_24 rfl (zG_aln0 (p := 26) d_129_25 rfl (zG_grd fun hg7 => (zG_gi (p := 29) d_129_26 ow_129 gf2_15_79 hg7 rfl (zG_aln1 (p := 30) d_129_29 rfl (zG_cU2v (p := 33) vk_130 hg7 d_129_30 ow_129 rs2_15_208 kk_130 rfl s130 rfl rfl rfl rfl (fun M8 R9 L10 => ?_))))))
  try dsimp only
  refine zG_aln0 (p := 34) d_129_33 rfl (zG_dup (p := 35) d_129_34 rfl rfl (zG_grd fun hg11 => (zG_gi (p := 38) d_129_35 ow_129 gf2_15_79 hg11 rfl (zG_iln2 (p := 39) d_129_38 rfl (zG_add (p := 40) d_129_39 rfl (zG_pi (p := 43) d_129_40 ow_129 gf2_15_79 (Or.inl rfl) (Or.inl rfl) fo_129_11_3 hg11 rfl (fun M12 => ?_)))))))
  refine zG_aln0 (p := 44) d_129_43 rfl ?_
  exact zG_retq d_129_44 rfl

theorem s128 {sc : ZS} {d : Nat} {t : Nat} {a1 : Nat} {M : ZI} {R : ZF} {L : ZY} : zG sc (d + 4) 128 0 [.val (.ref t), .val (.ref a1)] [] (M, R, L) (g128_append t a1 M R L) gEq := by
  unfold g128_append
  refine zG_aln0 (p := 1) d_128_0 rfl (zG_aln1 (p := 2) d_128_1 rfl (zG_grd fun hg1 => (zG_cP1q (p := 5) (by decide) rfl hg1 d_128_2 ow_128 rs2_11_29 kk_129 rfl s129 rfl rfl rfl rfl (fun r2 M3 R4 L5 => ?_))))
  try dsimp only
  refine zG_pop (p := 6) d_128_5 rfl rfl (zG_aln0 (p := 7) d_128_6 rfl ?_)
  exact zG_retq d_128_7 rfl

theorem s136 {sc : ZS} {d : Nat} {t : Nat} {M : ZI} {R : ZF} {L : ZY} : zG sc d 136 0 [.val (.ref t)] [] (M, R, L) (g136_getValue t M R L) (gEn (M, R, L)) := by
  unfold g136_getValue
  refine zG_aln0 (p := 1) d_136_0 rfl (zG_grd fun hg1 => (zG_grb (p := 4) d_136_1 ow_136 gf2_15_15 hg1 rfl (fun r2 => ?_)))
  exact zG_retn d_136_4 rfl

theorem s139 {sc : ZS} {d : Nat} {t : Nat} {M : ZI} {R : ZF} {L : ZY} : zG sc d 139 0 [.val (.ref t)] [] (M, R, L) (g139_length t M R L) (gEi (M, R, L)) := by
  unfold g139_length
  refine zG_aln0 (p := 1) d_139_0 rfl (zG_grd fun hg1 => (zG_gi (p := 4) d_139_1 ow_139 gf2_15_79 hg1 rfl ?_))
  exact zG_reti d_139_4 rt_139

theorem s137 {sc : ZS} {d : Nat} {t : Nat} {M : ZI} {R : ZF} {L : ZY} : zG sc (d + 1) 137 0 [.val (.ref t)] [] (M, R, L) (g137_length t M R L) (gEi (M, R, L)) := by
  unfold g137_length
  refine zG_aln0 (p := 1) d_137_0 rfl (zG_grd fun hg1 => (zG_cP0i (p := 4) (by decide) rfl hg1 d_137_1 ow_137 rs2_11_343 kk_139 rfl s139 rfl rfl rfl rfl (fun v2 => ?_)))
  exact zG_reti d_137_4 rt_137

theorem s142 {sc : ZS} {d : Nat} {a0 : Int32} {a1 : Int32} {M : ZI} {R : ZF} {L : ZY} : zG sc d 142 0 [.val (.int a0), .val (.int a1)] [] (M, R, L) (g142_checkLength a0 a1 M R L) gEv := by
  unfold g142_checkLength
  refine zG_iln1 (p := 1) d_142_0 rfl (zG_iln0 (p := 2) d_142_1 rfl ?_)
  refine zG_cge (p1 := 37) (p2 := 5) d_142_2 (by decide) rfl ?_ ?_
  · exact zG_retv d_142_37 rt_142
  · exact zG_none

theorem s141 {sc : ZS} {d : Nat} {a0 : Nat} {a1 : Int32} {a2 : Int32} {M : ZI} {R : ZF} {L : ZY} : zG sc (d + 1) 141 0 [.val (.ref a0), .val (.int a1), .val (.int a2), .unset, .unset] [] (M, R, L) (g141_copyOfRangeByte a0 a1 a2 M R L) gEq := by
  unfold g141_copyOfRangeByte
  refine zG_iln1 (p := 1) d_141_0 rfl (zG_iln2 (p := 2) d_141_1 rfl (zG_cS2v (p := 5) d_141_2 ow_141 rs2_18_343 kk_142 rfl s142 rfl rfl rfl rfl (fun M1 R2 L3 => ?_)))
  try dsimp only
  refine zG_iln2 (p := 6) d_141_5 rfl (zG_iln1 (p := 7) d_141_6 rfl (zG_sub (p := 8) d_141_7 rfl (zG_jsn3 (p := 9) d_141_8 rfl (fun x4 => ?_))))
  refine zG_iln3 (p := 10) d_141_9 rfl (zG_grd fun hg5 => (zG_grd fun hg6 => (zG_nb (p := 12) d_141_10 hg5 hg6 rfl (fun r7 M8 R9 L10 => ?_))))
  refine zG_as4 (p := 14) d_141_12 rfl (zG_aln0 (p := 15) d_141_14 rfl (zG_iln1 (p := 16) d_141_15 rfl (zG_al4 (p := 18) d_141_16 rfl (zG_ic (p := 19) d_141_18 ci_0 rfl (zG_aln0 (p := 20) d_141_19 rfl (zG_grd fun hg11 => (zG_blen (p := 21) d_141_20 hg11 rfl ?_)))))))
  refine zG_iln1 (p := 22) d_141_21 rfl (zG_sub (p := 23) d_141_22 rfl (zG_iln3 (p := 24) d_141_23 rfl (zG_min (p := 27) d_141_24 ow_141 rs2_18_304 rfl rfl (zG_grd fun hg12 => (zG_cpy (p := 30) d_141_27 ow_141 rs2_18_150 hg12 rfl rfl (fun M13 => ?_))))))
  refine zG_al4 (p := 32) d_141_30 rfl ?_
  exact zG_retq d_141_32 rfl

theorem s140 {sc : ZS} {d : Nat} {a0 : Nat} {a1 : Int32} {a2 : Int32} {M : ZI} {R : ZF} {L : ZY} : zG sc (d + 2) 140 0 [.val (.ref a0), .val (.int a1), .val (.int a2)] [] (M, R, L) (g140_copyOfRange a0 a1 a2 M R L) gEq := by
  unfold g140_copyOfRange
  refine zG_iln1 (p := 1) d_140_0 rfl ?_
  refine zG_jn (P := fun g => ∀ (M1 : ZI) (R2 : ZF) (L3 : ZY), zG sc (d + 2) 140 10 [.val (.ref a0), .val (.int a1), .val (.int a2)] [] (M1, R2, L3) (g M1 R2 L3) gEq) ?_ (fun j8 hj8 => ?_)
  · intro M1 R2 L3
    try dsimp only
    refine zG_aln0 (p := 11) d_140_10 rfl (zG_iln1 (p := 12) d_140_11 rfl (zG_iln2 (p := 13) d_140_12 rfl (zG_cS3q (p := 16) d_140_13 ow_140 rs2_18_339 kk_141 rfl s141 rfl rfl rfl rfl (fun r4 M5 R6 L7 => ?_))))
    try dsimp only
    exact zG_retq d_140_16 rfl
  · refine zG_zne (p1 := 10) (p2 := 4) d_140_1 (by decide) rfl ?_ ?_
    · exact hj8 M R L
    · refine zG_iln2 (p := 5) d_140_4 rfl (zG_aln0 (p := 6) d_140_5 rfl (zG_grd fun hg9 => (zG_blen (p := 7) d_140_6 hg9 rfl ?_)))
      refine zG_ceq (p1 := 17) (p2 := 10) d_140_7 (by decide) rfl ?_ ?_
      · refine zG_aln0 (p := 18) d_140_17 rfl (zG_grd fun hg10 => (zG_grd fun hg11 => (zG_grd fun hg12 => (zG_cl50 (p := 21) d_140_18 ow_140 rs2_18_310 hg10 hg11 hg12 rfl rfl (fun r13 M14 R15 L16 => ?_)))))
        refine zG_grd fun hg17 => (zG_cast (p := 24) d_140_21 ow_140 ⟨ac_18_311, rfl⟩ hg17 rfl ?_)
        exact zG_retq d_140_24 rfl
      · exact hj8 M R L

theorem s135 {sc : ZS} {d : Nat} {t : Nat} {a1 : Nat} {M : ZI} {R : ZF} {L : ZY} : zG sc (d + 3) 135 0 [.val (.ref t), .val (.ref a1), .val .null, .unset, .unset] [] (M, R, L) (g135_init t a1 M R L) gEv := by
  unfold g135_init
  refine zG_aln0 (p := 1) d_135_0 rfl (zG_grd fun hg1 => (zG_obj (p := 4) d_135_1 ow_135 rs2_12_1 hg1 rfl rfl (zG_aln1 (p := 5) d_135_4 rfl (zG_grd fun hg2 => (zG_cU0n (p := 8) vk_136 hg2 d_135_5 ow_135 rs2_12_552 kk_136 rfl s136 rfl rfl rfl rfl (fun r3 => ?_))))))
  refine zG_asn3 (p := 9) d_135_8 rfl (zG_aln1 (p := 10) d_135_9 rfl (zG_cU0i (p := 13) vk_139 hg2 d_135_10 ow_135 rs2_12_549 kk_137 rfl s137 rfl rfl rfl rfl (fun v4 => ?_)))
  refine zG_is4 (p := 15) d_135_13 rfl (zG_aln1 (p := 16) d_135_15 rfl (zG_cU0i (p := 19) vk_126 hg2 d_135_16 ow_135 rs2_12_1047 kk_126 rfl s126 rfl rfl rfl rfl (fun v5 => ?_)))
  refine zG_zeq (p1 := 41) (p2 := 22) d_135_19 (by decide) rfl ?_ ?_
  · refine zG_stai (p := 44) d_135_41 ow_135 sta_12_38 rfl rfl ?_
    refine zG_jn (P := fun g => ∀ (_ : Unit), zG sc (d + 3) 135 79 [.val (.ref t), .val (.ref a1), .val .null, .val (.ref r3), .val (.int v4)] [] (M, R, L) (g ()) gEv) ?_ (fun j15 hj15 => ?_)
    · intro _
      try dsimp only
      refine zG_aln0 (p := 80) d_135_79 rfl (zG_ic (p := 81) d_135_80 ci_1 rfl (zG_grd fun hg6 => (zG_pi (p := 84) d_135_81 ow_135 gf2_12_15 (Or.inr (Or.inr rfl)) (Or.inr (Or.inr rfl)) fo_135_12_1 hg6 rfl (fun M7 => ?_))))
      refine zG_aln0 (p := 85) d_135_84 rfl (zG_aln3 (p := 86) d_135_85 rfl (zG_ic (p := 87) d_135_86 ci_0 rfl (zG_il4 (p := 89) d_135_87 rfl (zG_ic (p := 90) d_135_89 ci_1 rfl (zG_shl (p := 91) d_135_90 rfl (zG_cS3q (p := 94) d_135_91 ow_135 rs2_12_54 kk_140 rfl s140 rfl rfl rfl rfl (fun r8 M9 R10 L11 => ?_)))))))
      try dsimp only
      refine zG_grd fun hg12 => (zG_grd fun hg13 => (zG_pr (p := 97) d_135_94 ow_135 gf2_12_9 fo_135_12_0 hg12 hg13 rfl (fun R14 => ?_)))
      exact zG_retv d_135_97 rt_135
    · refine zG_zeq (p1 := 79) (p2 := 47) d_135_44 (by decide) rfl ?_ ?_
      · exact hj15 ()
      · refine zG_aln1 (p := 48) d_135_47 rfl (zG_gi (p := 51) d_135_48 ow_135 gf2_12_1048 hg2 rfl ?_)
        refine zG_zeq (p1 := 79) (p2 := 54) d_135_51 (by decide) rfl ?_ ?_
        · exact hj15 ()
        · refine zG_aln0 (p := 55) d_135_54 rfl (zG_aln3 (p := 56) d_135_55 rfl (zG_ic (p := 57) d_135_56 ci_0 rfl (zG_il4 (p := 59) d_135_57 rfl ?_)))
          exact zG_none
  · refine zG_aln0 (p := 23) d_135_22 rfl (zG_ic (p := 24) d_135_23 ci_0 rfl (zG_grd fun hg16 => (zG_pi (p := 27) d_135_24 ow_135 gf2_12_15 (Or.inr (Or.inl rfl)) (Or.inr (Or.inr rfl)) fo_135_12_1 hg16 rfl (fun M17 => ?_))))
    refine zG_aln0 (p := 28) d_135_27 rfl (zG_aln3 (p := 29) d_135_28 rfl (zG_ic (p := 30) d_135_29 ci_0 rfl (zG_il4 (p := 32) d_135_30 rfl (zG_cS3q (p := 35) d_135_32 ow_135 rs2_12_54 kk_140 rfl s140 rfl rfl rfl rfl (fun r18 M19 R20 L21 => ?_)))))
    try dsimp only
    refine zG_grd fun hg22 => (zG_grd fun hg23 => (zG_pr (p := 38) d_135_35 ow_135 gf2_12_9 fo_135_12_0 hg22 hg23 rfl (fun R24 => ?_)))
    refine zG_goto (p := 97) d_135_38 (by decide) ?_
    exact zG_retv d_135_97 rt_135

theorem s134 {sc : ZS} {d : Nat} {t : Nat} {a1 : Nat} {M : ZI} {R : ZF} {L : ZY} : zG sc (d + 4) 134 0 [.val (.ref t), .val (.ref a1)] [] (M, R, L) (g134_init t a1 M R L) gEv := by
  unfold g134_init
  refine zG_aln0 (p := 1) d_134_0 rfl (zG_aln1 (p := 2) d_134_1 rfl (zG_null (p := 3) d_134_2 rfl (zG_grd fun hg1 => (zG_cI2v (p := 6) hg1 d_134_3 ow_134 rs2_12_489 kk_135 rfl s135 rfl rfl rfl rfl (fun M2 R3 L4 => ?_)))))
  try dsimp only
  exact zG_retv d_134_6 rt_134

theorem s133 {sc : ZS} {d : Nat} {t : Nat} {M : ZI} {R : ZF} {L : ZY} : zG sc (d + 5) 133 0 [.val (.ref t)] [] (M, R, L) (g133_toString t M R L) gEq := by
  unfold g133_toString
  refine zG_grd fun hg1 => (zG_no (p := 3) d_133_0 ow_133 nw_11_18 hg1 rfl (fun r2 M3 R4 L5 => ?_))
  refine zG_dup (p := 4) d_133_3 rfl rfl (zG_aln0 (p := 5) d_133_4 rfl (zG_grd fun hg6 => (zG_cI1v (p := 8) hg6 d_133_5 ow_133 rs2_11_137 kk_134 rfl s134 rfl rfl rfl rfl (fun M7 R8 L9 => ?_))))
  try dsimp only
  exact zG_retq d_133_8 rfl

theorem s145_l17 {sc : ZS} {d : Nat} {a1 : Nat} {x1 : Int32} {r11 : Nat} : ∀ (n : Nat) (x15 : Int32) (M16 : ZI) (R17 : ZF) (L18 : ZY), zG sc (d + 4) 145 17 [.val (.ref 0), .val (.ref a1), .val (.int x1), .val (.ref r11), .val (.int x15)] [] (M16, R17, L18) (g145_l17 a1 x1 r11 n x15 M16 R17 L18) (gEj sc (d + 4) 145 70 (fun (b : ZI × ZF × ZY) (s : Slot) => [.val (.ref 0), .val (.ref a1), .val (.int x1), .val (.ref r11), s]) (fun b => []) (fun b => (b.1, b.2.1, b.2.2))) := by
  intro n
  induction n with
  | zero => intros; exact zG_none
  | succ n ih =>
    intro x15 M16 R17 L18
    rw [g145_l17]
    refine zG_il4 (p := 19) d_145_17 rfl (zG_bi (p := 21) d_145_19 cb_20 rfl ?_)
    refine zG_cge (p1 := 70) (p2 := 24) d_145_21 (by decide) rfl ?_ ?_
    · exact zG_leaf (fun _ _ h => h (.val (.int x15)))
    · refine zG_aln3 (p := 25) d_145_24 rfl (zG_il4 (p := 27) d_145_25 rfl (zG_ic (p := 28) d_145_27 ci_4 rfl (zG_div (p := 29) d_145_28 (by decide) rfl (zG_aln3 (p := 30) d_145_29 rfl (zG_il4 (p := 32) d_145_30 rfl (zG_ic (p := 33) d_145_32 ci_4 rfl (zG_div (p := 34) d_145_33 (by decide) rfl ?_)))))))
      refine zG_grd fun hg19 => (zG_ia (p := 35) d_145_34 hg19 rfl (zG_bi (p := 37) d_145_35 cb_8 rfl (zG_shl (p := 38) d_145_37 rfl (zG_iln2 (p := 39) d_145_38 rfl (zG_il4 (p := 41) d_145_39 rfl (zG_add (p := 42) d_145_41 rfl (zG_aln1 (p := 43) d_145_42 rfl ?_)))))))
      refine zG_grd fun hg20 => (zG_cV0i (p := 46) (c := 12) ⟨ow_57, by decide, zdr_57⟩ hg20 d_145_43 ow_145 rs2_14_17 kk_57 vn_57 rfl s57 rfl rfl rfl rfl (fun v21 => ?_))
      refine zG_cge (p1 := 60) (p2 := 49) d_145_46 (by decide) rfl ?_ ?_
      · refine zG_bi (p := 62) d_145_60 cb_32 rfl (zG_or (p := 63) d_145_62 rfl (zG_ist (p := 64) d_145_63 hg19 rfl (fun M22 => ?_)))
        refine zG_ii4 (p := 67) d_145_64 ci_1 rfl (zG_goto (p := 17) d_145_67 (by decide) ?_)
        exact ih (x15 + (1 : Int32)) M22 R17 L18
      · refine zG_aln1 (p := 50) d_145_49 rfl (zG_iln2 (p := 51) d_145_50 rfl (zG_il4 (p := 53) d_145_51 rfl (zG_add (p := 54) d_145_53 rfl (zG_cV1m (p := 57) (c := 12) ⟨ow_59, by decide, zdr_59⟩ hg20 d_145_54 ow_145 rs2_14_23 kk_59 vn_59 rfl s59 rfl rfl rfl rfl (fun v23 M24 R25 L26 => ?_)))))
        try dsimp only
        refine zG_goto (p := 62) d_145_57 (by decide) (zG_or (p := 63) d_145_62 rfl (zG_grd fun hg27 => (zG_ist (p := 64) d_145_63 hg27 rfl (fun M28 => ?_))))
        refine zG_ii4 (p := 67) d_145_64 ci_1 rfl (zG_goto (p := 17) d_145_67 (by decide) ?_)
        exact ih (x15 + (1 : Int32)) M28 R25 L26

theorem s145_l2 {sc : ZS} {d : Nat} {a1 : Nat} : ∀ (n : Nat) (x1 : Int32) (M4 : ZI) (R5 : ZF) (L6 : ZY) (u2 : Slot) (u3 : Slot), zG sc (d + 4) 145 2 [.val (.ref 0), .val (.ref a1), .val (.int x1), u2, u3] [] (M4, R5, L6) (g145_l2 a1 n x1 M4 R5 L6) (gEj sc (d + 4) 145 96 (fun (b : ZI × ZF × ZY) (s : Slot × Slot × Slot) => [.val (.ref 0), .val (.ref a1), s.1, s.2.1, s.2.2]) (fun b => []) (fun b => (b.1, b.2.1, b.2.2))) := by
  intro n
  induction n with
  | zero => intros; exact zG_none
  | succ n ih =>
    intro x1 M4 R5 L6 u2 u3
    rw [g145_l2]
    refine zG_iln2 (p := 3) d_145_2 rfl (zG_aln1 (p := 4) d_145_3 rfl (zG_grd fun hg7 => (zG_cV0i (p := 7) (c := 12) ⟨ow_57, by decide, zdr_57⟩ hg7 d_145_4 ow_145 rs2_14_17 kk_57 vn_57 rfl s57 rfl rfl rfl rfl (fun v8 => ?_))))
    refine zG_cge (p1 := 96) (p2 := 10) d_145_7 (by decide) rfl ?_ ?_
    · exact zG_leaf (fun _ _ h => h (.val (.int x1), u2, u3))
    · refine zG_ic (p := 11) d_145_10 ci_5 rfl (zG_grd fun hg9 => (zG_grd fun hg10 => (zG_ni (p := 13) d_145_11 hg9 hg10 rfl (fun r11 M12 R13 L14 => ?_))))
      refine zG_asn3 (p := 14) d_145_13 rfl (zG_ic (p := 15) d_145_14 ci_0 rfl (zG_is4 (p := 17) d_145_15 rfl ?_))
      refine zG_bind (s145_l17 zfu (0 : Int32) M12 R13 L14) ?_
      rintro ⟨M29, R30, L31⟩ u32
      try dsimp only
      refine zG_aln0 (p := 71) d_145_70 rfl (zG_aln3 (p := 72) d_145_71 rfl (zG_ic (p := 73) d_145_72 ci_0 rfl (zG_grd fun hg33 => (zG_ia (p := 74) d_145_73 hg33 rfl (zG_aln3 (p := 75) d_145_74 rfl (zG_ic (p := 76) d_145_75 ci_1 rfl (zG_grd fun hg34 => (zG_ia (p := 77) d_145_76 hg34 rfl ?_))))))))
      refine zG_aln3 (p := 78) d_145_77 rfl (zG_ic (p := 79) d_145_78 ci_2 rfl (zG_grd fun hg35 => (zG_ia (p := 80) d_145_79 hg35 rfl (zG_aln3 (p := 81) d_145_80 rfl (zG_ic (p := 82) d_145_81 ci_3 rfl (zG_grd fun hg36 => (zG_ia (p := 83) d_145_82 hg36 rfl ?_)))))))
      refine zG_aln3 (p := 84) d_145_83 rfl (zG_ic (p := 85) d_145_84 ci_4 rfl (zG_grd fun hg37 => (zG_ia (p := 86) d_145_85 hg37 rfl (zG_grd fun hg38 => (zG_k5m (p := 89) hg38 kc_48 d_145_86 ow_145 rs2_14_27 kk_48 rfl (fun q hL => s48 hL) rfl rfl rfl rfl (fun v39 M40 => ?_))))))
      try dsimp only
      refine zG_pop (p := 90) d_145_89 rfl rfl (zG_ii2 (p := 93) d_145_90 ci_20 rfl (zG_goto (p := 2) d_145_93 (by decide) ?_))
      exact ih (x1 + (20 : Int32)) M40 R30 L31 (.val (.ref r11)) (u32)

theorem s145 {sc : ZS} {d : Nat} {a1 : Nat} {M : ZI} {R : ZF} {L : ZY} : zG sc (d + 4) 145 0 [.val (.ref 0), .val (.ref a1), .unset, .unset, .unset] [] (M, R, L) (g145_say a1 M R L) gEv := by
  unfold g145_say
  refine zG_ic (p := 1) d_145_0 ci_0 rfl (zG_isn2 (p := 2) d_145_1 rfl ?_)
  refine zG_bind (s145_l2 zfu (0 : Int32) M R L (.unset) (.unset)) ?_
  rintro ⟨M41, R42, L43⟩ ⟨u44, u45, u46⟩
  try dsimp only
  refine zG_aln1 (p := 97) d_145_96 rfl (zG_grd fun hg47 => (zG_cV0i (p := 100) (c := 12) ⟨ow_57, by decide, zdr_57⟩ hg47 d_145_97 ow_145 rs2_14_17 kk_57 vn_57 rfl s57 rfl rfl rfl rfl (fun v48 => ?_)))
  refine zG_zle (p1 := 112) (p2 := 103) d_145_100 (by decide) rfl ?_ ?_
  · exact zG_retv d_145_112 rt_145
  · refine zG_aln0 (p := 104) d_145_103 rfl (zG_aln1 (p := 105) d_145_104 rfl (zG_cV0i (p := 108) (c := 12) ⟨ow_57, by decide, zdr_57⟩ hg47 d_145_105 ow_145 rs2_14_17 kk_57 vn_57 rfl s57 rfl rfl rfl rfl (fun v49 => ?_)))
    refine zG_grd fun hg50 => (zG_k1m (p := 111) hg50 kc_51 d_145_108 ow_145 rs2_14_33 kk_51 rfl (fun q hL => s51 hL) rfl rfl rfl rfl (fun v51 M52 => ?_))
    try dsimp only
    refine zG_pop (p := 112) d_145_111 rfl rfl ?_
    exact zG_retv d_145_112 rt_145

theorem s116_l19 {sc : ZS} {d : Nat} {a1 : Nat} {a2 : Int32} {r2 : Nat} : ∀ (n : Nat) (x12 : Int32) (x13 : Int32) (M16 : ZI) (R17 : ZF) (L18 : ZY) (u14 : Slot) (u15 : Slot), zG sc (d + 77) 116 19 [.val (.ref 0), .val (.ref a1), .val (.int a2), .val (.ref r2), .val (.int x12), .val (.int x13), u14, u15, .unset, .unset] [] (M16, R17, L18) (g116_l19 a1 a2 r2 n x12 x13 M16 R17 L18) (gEj sc (d + 77) 116 140 (fun (b : Int32 × ZI × ZF × ZY) (s : Slot × Slot × Slot) => [.val (.ref 0), .val (.ref a1), .val (.int a2), .val (.ref r2), .val (.int b.1), s.1, s.2.1, s.2.2, .unset, .unset]) (fun b => []) (fun b => (b.2.1, b.2.2.1, b.2.2.2))) := by
  intro n
  induction n with
  | zero => intros; exact zG_none
  | succ n ih =>
    intro x12 x13 M16 R17 L18 u14 u15
    rw [g116_l19]
    refine zG_il5 (p := 21) d_116_19 rfl ?_
    refine zG_zlt (p1 := 140) (p2 := 24) d_116_21 (by decide) rfl ?_ ?_
    · exact zG_leaf (fun _ _ h => h (.val (.int x13), u14, u15))
    · refine zG_iln2 (p := 25) d_116_24 rfl (zG_il5 (p := 27) d_116_25 rfl (zG_ic (p := 28) d_116_27 ci_3 rfl (zG_add (p := 29) d_116_28 rfl (zG_mul (p := 30) d_116_29 rfl (zG_si (p := 33) d_116_30 cs_211 rfl (zG_il5 (p := 35) d_116_33 rfl (zG_mul (p := 36) d_116_35 rfl ?_)))))))
      refine zG_add (p := 37) d_116_36 rfl (zG_js6 (p := 39) d_116_37 rfl (fun x19 => ?_))
      refine zG_aln1 (p := 40) d_116_39 rfl (zG_grd fun hg20 => (zG_grb (p := 43) d_116_40 ow_116 gf2_14_46 hg20 rfl (fun r21 => ?_)))
      refine zG_il5 (p := 45) d_116_43 rfl (zG_grd fun hg22 => (zG_aa51 (p := 46) d_116_45 hg22 rfl (fun r23 => ?_)))
      refine zG_ic (p := 47) d_116_46 ci_5 rfl (zG_ic (p := 48) d_116_47 ci_m1 rfl (zG_grd fun hg24 => (zG_ist (p := 49) d_116_48 hg24 rfl (fun M25 => ?_))))
      refine zG_il6 (p := 51) d_116_49 rfl (zG_ic (p := 52) d_116_51 ci_4 rfl (zG_shr (p := 53) d_116_52 rfl (zG_ic (p := 54) d_116_53 ci_0 rfl (zG_aln1 (p := 55) d_116_54 rfl (zG_gi (p := 58) d_116_55 ow_116 gf2_14_40 hg20 rfl (zG_ic (p := 59) d_116_58 ci_1 rfl (zG_sub (p := 60) d_116_59 rfl ?_)))))))
      refine zG_cS3i (p := 63) d_116_60 ow_116 rs2_14_50 kk_115 rfl s115 rfl rfl rfl rfl (fun v26 => ?_)
      refine zG_is7 (p := 65) d_116_63 rfl (zG_il6 (p := 67) d_116_65 rfl (zG_bi (p := 69) d_116_67 cb_7 rfl (zG_shr (p := 70) d_116_69 rfl (zG_ic (p := 71) d_116_70 ci_3 rfl (zG_and (p := 72) d_116_71 rfl ?_)))))
      refine zG_zeq (p1 := 134) (p2 := 75) d_116_72 (by decide) rfl ?_ ?_
      · refine zG_ii5 (p := 137) d_116_134 ci_m1 rfl (zG_goto (p := 19) d_116_137 (by decide) ?_)
        exact ih x12 (x13 + (-1 : Int32)) M25 R17 L18 (.val (.int x19)) (.val (.int v26))
      · refine zG_il7 (p := 77) d_116_75 rfl (zG_il5 (p := 79) d_116_77 rfl ?_)
        refine zG_cne (p1 := 85) (p2 := 82) d_116_79 (by decide) rfl ?_ ?_
        · refine zG_aln1 (p := 86) d_116_85 rfl (zG_grb (p := 89) d_116_86 ow_116 gf2_14_46 hg20 rfl (fun r27 => ?_))
          refine zG_il5 (p := 91) d_116_89 rfl (zG_grd fun hg28 => (zG_aa51 (p := 92) d_116_91 hg28 rfl (fun r29 => ?_)))
          refine zG_ic (p := 93) d_116_92 ci_5 rfl (zG_il7 (p := 95) d_116_93 rfl (zG_grd fun hg30 => (zG_ist (p := 96) d_116_95 hg30 rfl (fun M31 => ?_))))
          refine zG_ii4 (p := 99) d_116_96 ci_1 rfl (zG_aln3 (p := 100) d_116_99 rfl (zG_grd fun hg32 => (zG_no (p := 103) d_116_100 ow_116 nw_14_37 hg32 rfl (fun r33 M34 R35 L36 => ?_))))
          refine zG_dup (p := 104) d_116_103 rfl rfl (zG_grd fun hg37 => (zG_cI0v (p := 107) hg37 d_116_104 ow_116 rs2_14_39 kk_117 rfl s117 rfl rfl rfl rfl (fun M38 R39 L40 => ?_)))
          try dsimp only
          refine zG_il5 (p := 109) d_116_107 rfl (zG_grd fun hg41 => (zG_cV1q (p := 112) (c := 11) ⟨ow_119, by decide, zdr_119⟩ hg41 d_116_109 ow_116 rs2_14_56 kk_119 vn_119 rfl s119 rfl rfl rfl rfl (fun r42 M43 R44 L45 => ?_)))
          try dsimp only
          refine zG_ldcs (p := 114) d_116_112 ow_116 st_14_60 rfl rfl (zG_grd fun hg46 => (zG_cV1q (p := 117) (c := 11) ⟨ow_128, by decide, zdr_128⟩ hg46 d_116_114 ow_116 rs2_14_62 kk_128 vn_128 rfl s128 rfl rfl rfl rfl (fun r47 M48 R49 L50 => ?_)))
          try dsimp only
          refine zG_il7 (p := 119) d_116_117 rfl (zG_grd fun hg51 => (zG_cV1q (p := 122) (c := 11) ⟨ow_119, by decide, zdr_119⟩ hg51 d_116_119 ow_116 rs2_14_56 kk_119 vn_119 rfl s119 rfl rfl rfl rfl (fun r52 M53 R54 L55 => ?_)))
          try dsimp only
          refine zG_ldcs (p := 124) d_116_122 ow_116 st_14_65 rfl rfl (zG_grd fun hg56 => (zG_cV1q (p := 127) (c := 11) ⟨ow_128, by decide, zdr_128⟩ hg56 d_116_124 ow_116 rs2_14_62 kk_128 vn_128 rfl s128 rfl rfl rfl rfl (fun r57 M58 R59 L60 => ?_)))
          try dsimp only
          refine zG_grd fun hg61 => (zG_cV0q (p := 130) (c := 11) ⟨ow_133, by decide, zdr_133⟩ hg61 d_116_127 ow_116 rs2_14_67 kk_133 vn_133 rfl s133 rfl rfl rfl rfl (fun r62 M63 R64 L65 => ?_))
          try dsimp only
          refine zG_grd fun hg66 => (zG_cV1q (p := 133) (c := 11) ⟨ow_128, by decide, zdr_128⟩ hg66 d_116_130 ow_116 rs2_14_62 kk_128 vn_128 rfl s128 rfl rfl rfl rfl (fun r67 M68 R69 L70 => ?_))
          try dsimp only
          refine zG_pop (p := 134) d_116_133 rfl rfl (zG_ii5 (p := 137) d_116_134 ci_m1 rfl (zG_goto (p := 19) d_116_137 (by decide) ?_))
          exact ih (x12 + (1 : Int32)) (x13 + (-1 : Int32)) M68 R69 L70 (.val (.int x19)) (.val (.int v26))
        · refine zG_goto (p := 134) d_116_82 (by decide) (zG_ii5 (p := 137) d_116_134 ci_m1 rfl (zG_goto (p := 19) d_116_137 (by decide) ?_))
          exact ih x12 (x13 + (-1 : Int32)) M25 R17 L18 (.val (.int x19)) (.val (.int v26))

theorem s116_l336 {sc : ZS} {d : Nat} {a1 : Nat} {a2 : Int32} {x71 : Int32} {v91 : Int32} {r93 : Nat} {x111 : Int32} {x118 : Int32} {L126 : ZY} {M145 : ZI} {R148 : ZF} : ∀ (n : Nat) (x149 : Int32) (x150 : Int32), zG sc (d + 77) 116 336 [.val (.ref 0), .val (.ref a1), .val (.int a2), .val (.ref r93), .val (.int x71), .val (.int v91), .val (.int x111), .val (.int x118), .val (.int x149), .val (.int x150)] [] (M145, R148, L126) (g116_l336 a1 x111 x118 L126 M145 R148 n x149 x150) (gEj sc (d + 77) 116 385 (fun (b : Int32) (s : Slot) => [.val (.ref 0), .val (.ref a1), .val (.int a2), .val (.ref r93), .val (.int x71), .val (.int v91), .val (.int x111), .val (.int x118), .val (.int b), s]) (fun b => []) (fun b => (M145, R148, L126))) := by
  intro n
  induction n with
  | zero => intros; exact zG_none
  | succ n ih =>
    intro x149 x150
    rw [g116_l336]
    refine zG_il9 (p := 338) d_116_336 rfl (zG_il6 (p := 340) d_116_338 rfl ?_)
    refine zG_cge (p1 := 385) (p2 := 343) d_116_340 (by decide) rfl ?_ ?_
    · exact zG_leaf (fun _ _ h => h (.val (.int x150)))
    · refine zG_il7 (p := 345) d_116_343 rfl (zG_bi (p := 347) d_116_345 cb_8 rfl (zG_shr (p := 348) d_116_347 rfl (zG_ic (p := 349) d_116_348 ci_1 rfl (zG_and (p := 350) d_116_349 rfl (zG_ic (p := 351) d_116_350 ci_1 rfl ?_)))))
      refine zG_cne (p1 := 385) (p2 := 354) d_116_351 (by decide) rfl ?_ ?_
      · exact zG_leaf (fun _ _ h => h (.val (.int x150)))
      · refine zG_aln1 (p := 355) d_116_354 rfl (zG_grd fun hg151 => (zG_grb (p := 358) d_116_355 ow_116 gf2_14_81 hg151 rfl (fun r152 => ?_)))
        refine zG_il9 (p := 360) d_116_358 rfl (zG_grd fun hg153 => (zG_aa51 (p := 361) d_116_360 hg153 rfl (fun r154 => ?_)))
        refine zG_ic (p := 362) d_116_361 ci_0 rfl (zG_grd fun hg155 => (zG_ia (p := 363) d_116_362 hg155 rfl (zG_aln1 (p := 364) d_116_363 rfl (zG_grb (p := 367) d_116_364 ow_116 gf2_14_81 hg151 rfl (fun r156 => ?_)))))
        refine zG_il6 (p := 369) d_116_367 rfl (zG_grd fun hg157 => (zG_aa51 (p := 370) d_116_369 hg157 rfl (fun r158 => ?_)))
        refine zG_ic (p := 371) d_116_370 ci_0 rfl (zG_grd fun hg159 => (zG_ia (p := 372) d_116_371 hg159 rfl ?_))
        refine zG_cne (p1 := 379) (p2 := 375) d_116_372 (by decide) rfl ?_ ?_
        · refine zG_ii9 (p := 382) d_116_379 ci_1 rfl (zG_goto (p := 336) d_116_382 (by decide) ?_)
          exact ih x149 (x150 + (1 : Int32))
        · refine zG_il9 (p := 377) d_116_375 rfl (zG_is8 (p := 379) d_116_377 rfl (zG_ii9 (p := 382) d_116_379 ci_1 rfl (zG_goto (p := 336) d_116_382 (by decide) ?_)))
          exact ih x150 (x150 + (1 : Int32))

theorem s116_l207 {sc : ZS} {d : Nat} {a1 : Nat} {a2 : Int32} {x71 : Int32} {v91 : Int32} {r93 : Nat} : ∀ (n : Nat) (x111 : Int32) (M115 : ZI) (R116 : ZF) (L117 : ZY) (u112 : Slot) (u113 : Slot) (u114 : Slot), zG sc (d + 77) 116 207 [.val (.ref 0), .val (.ref a1), .val (.int a2), .val (.ref r93), .val (.int x71), .val (.int v91), .val (.int x111), u112, u113, u114] [] (M115, R116, L117) (g116_l207 a1 a2 v91 r93 n x111 M115 R116 L117) (gEj sc (d + 77) 116 524 (fun (b : ZI × ZF × ZY) (s : Slot × Slot × Slot × Slot) => [.val (.ref 0), .val (.ref a1), .val (.int a2), .val (.ref r93), .val (.int x71), .val (.int v91), s.1, s.2.1, s.2.2.1, s.2.2.2]) (fun b => []) (fun b => (b.1, b.2.1, b.2.2))) := by
  intro n
  induction n with
  | zero => intros; exact zG_none
  | succ n ih =>
    intro x111 M115 R116 L117 u112 u113 u114
    rw [g116_l207]
    refine zG_il6 (p := 209) d_116_207 rfl (zG_il5 (p := 211) d_116_209 rfl ?_)
    refine zG_cge (p1 := 524) (p2 := 214) d_116_211 (by decide) rfl ?_ ?_
    · exact zG_leaf (fun _ _ h => h (.val (.int x111), u112, u113, u114))
    · refine zG_iln2 (p := 215) d_116_214 rfl (zG_il6 (p := 217) d_116_215 rfl (zG_ic (p := 218) d_116_217 ci_5 rfl (zG_add (p := 219) d_116_218 rfl (zG_mul (p := 220) d_116_219 rfl (zG_si (p := 223) d_116_220 cs_223 rfl (zG_il6 (p := 225) d_116_223 rfl (zG_mul (p := 226) d_116_225 rfl ?_)))))))
      refine zG_add (p := 227) d_116_226 rfl (zG_js7 (p := 229) d_116_227 rfl (fun x118 => ?_))
      refine zG_ic (p := 230) d_116_229 ci_m1 rfl (zG_is8 (p := 232) d_116_230 rfl (zG_aln1 (p := 233) d_116_232 rfl (zG_grd fun hg119 => (zG_grb (p := 236) d_116_233 ow_116 gf2_14_81 hg119 rfl (fun r120 => ?_)))))
      refine zG_il6 (p := 238) d_116_236 rfl (zG_bi (p := 240) d_116_238 cb_6 rfl (zG_grd fun hg121 => (zG_grd fun hg122 => (zG_ni (p := 242) d_116_240 hg121 hg122 rfl (fun r123 M124 R125 L126 => ?_)))))
      refine zG_dup (p := 243) d_116_242 rfl rfl (zG_ic (p := 244) d_116_243 ci_0 rfl (zG_il7 (p := 246) d_116_244 rfl (zG_ic (p := 247) d_116_246 ci_0 rfl (zG_ic (p := 248) d_116_247 ci_2 rfl (zG_aln1 (p := 249) d_116_248 rfl (zG_grd fun hg127 => (zG_gi (p := 252) d_116_249 ow_116 gf2_14_40 hg127 rfl ?_)))))))
      refine zG_ic (p := 253) d_116_252 ci_1 rfl (zG_sub (p := 254) d_116_253 rfl (zG_min (p := 257) d_116_254 ow_116 rs2_14_8 rfl rfl (zG_cS3i (p := 260) d_116_257 ow_116 rs2_14_50 kk_115 rfl s115 rfl rfl rfl rfl (fun v128 => ?_))))
      refine zG_grd fun hg129 => (zG_ist (p := 261) d_116_260 hg129 rfl (fun M130 => ?_))
      refine zG_dup (p := 262) d_116_261 rfl rfl (zG_ic (p := 263) d_116_262 ci_1 rfl (zG_il7 (p := 265) d_116_263 rfl (zG_ic (p := 266) d_116_265 ci_3 rfl (zG_shr (p := 267) d_116_266 rfl (zG_ic (p := 268) d_116_267 ci_1 rfl (zG_il7 (p := 270) d_116_268 rfl (zG_bi (p := 272) d_116_270 cb_9 rfl ?_)))))))
      refine zG_shr (p := 273) d_116_272 rfl (zG_ic (p := 274) d_116_273 ci_3 rfl (zG_and (p := 275) d_116_274 rfl ?_))
      refine zG_bind (σ := Unit) (β := Int32) (pj := 285) (lj := fun (b : Int32) (s : Unit) => [.val (.ref 0), .val (.ref a1), .val (.int a2), .val (.ref r93), .val (.int x71), .val (.int v91), .val (.int x111), .val (.int x118), .val (.int (-1 : Int32)), u114]) (sj := fun b => [.int b, .int (1 : Int32), .int (zshr x118 (3 : Int32)), .int (1 : Int32), .ref r123, .ref r123, .int x111, .ref r120]) (hj := fun b => (M130, R125, L126)) ?_ ?_
      · refine zG_zne (p1 := 283) (p2 := 278) d_116_275 (by decide) rfl ?_ ?_
        · refine zG_bi (p := 285) d_116_283 cb_8 rfl ?_
          exact zG_leaf (fun _ _ h => h ())
        · refine zG_bi (p := 280) d_116_278 cb_24 rfl (zG_goto (p := 285) d_116_280 (by decide) ?_)
          exact zG_leaf (fun _ _ h => h ())
      · rintro v131 _
        try dsimp only
        refine zG_cS3i (p := 288) d_116_285 ow_116 rs2_14_50 kk_115 rfl s115 rfl rfl rfl rfl (fun v132 => ?_)
        refine zG_grd fun hg133 => (zG_ist (p := 289) d_116_288 hg133 rfl (fun M134 => ?_))
        refine zG_dup (p := 290) d_116_289 rfl rfl (zG_ic (p := 291) d_116_290 ci_2 rfl (zG_il7 (p := 293) d_116_291 rfl (zG_ic (p := 294) d_116_293 ci_5 rfl (zG_shr (p := 295) d_116_294 rfl (zG_ic (p := 296) d_116_295 ci_0 rfl (zG_bi (p := 298) d_116_296 cb_40 rfl (zG_cS3i (p := 301) d_116_298 ow_116 rs2_14_50 kk_115 rfl s115 rfl rfl rfl rfl (fun v135 => ?_))))))))
        refine zG_grd fun hg136 => (zG_ist (p := 302) d_116_301 hg136 rfl (fun M137 => ?_))
        refine zG_dup (p := 303) d_116_302 rfl rfl (zG_ic (p := 304) d_116_303 ci_3 rfl (zG_il7 (p := 306) d_116_304 rfl (zG_bi (p := 308) d_116_306 cb_6 rfl (zG_shr (p := 309) d_116_308 rfl (zG_ic (p := 310) d_116_309 ci_0 rfl (zG_ic (p := 311) d_116_310 ci_3 rfl (zG_cS3i (p := 314) d_116_311 ow_116 rs2_14_50 kk_115 rfl s115 rfl rfl rfl rfl (fun v138 => ?_))))))))
        refine zG_grd fun hg139 => (zG_ist (p := 315) d_116_314 hg139 rfl (fun M140 => ?_))
        refine zG_dup (p := 316) d_116_315 rfl rfl (zG_ic (p := 317) d_116_316 ci_4 rfl (zG_il7 (p := 319) d_116_317 rfl (zG_bi (p := 321) d_116_319 cb_7 rfl (zG_shr (p := 322) d_116_321 rfl (zG_ic (p := 323) d_116_322 ci_0 rfl (zG_ic (p := 324) d_116_323 ci_3 rfl (zG_cS3i (p := 327) d_116_324 ow_116 rs2_14_50 kk_115 rfl s115 rfl rfl rfl rfl (fun v141 => ?_))))))))
        refine zG_grd fun hg142 => (zG_ist (p := 328) d_116_327 hg142 rfl (fun M143 => ?_))
        refine zG_dup (p := 329) d_116_328 rfl rfl (zG_ic (p := 330) d_116_329 ci_5 rfl (zG_ic (p := 331) d_116_330 ci_m1 rfl (zG_grd fun hg144 => (zG_ist (p := 332) d_116_331 hg144 rfl (fun M145 => ?_)))))
        refine zG_grd fun hg146 => (zG_grd fun hg147 => (zG_ast51 (p := 333) d_116_332 hg146 hg147 rfl (fun R148 => ?_)))
        refine zG_ic (p := 334) d_116_333 ci_0 rfl (zG_is9 (p := 336) d_116_334 rfl ?_)
        refine zG_bind (s116_l336 zfu (-1 : Int32) (0 : Int32)) ?_
        rintro x160 u161
        try dsimp only
        refine zG_aln1 (p := 386) d_116_385 rfl (zG_grd fun hg162 => (zG_grb (p := 389) d_116_386 ow_116 gf2_14_81 hg162 rfl (fun r163 => ?_)))
        refine zG_il6 (p := 391) d_116_389 rfl (zG_grd fun hg164 => (zG_aa51 (p := 392) d_116_391 hg164 rfl (fun r165 => ?_)))
        refine zG_ic (p := 393) d_116_392 ci_5 rfl (zG_il8 (p := 395) d_116_393 rfl (zG_grd fun hg166 => (zG_ist (p := 396) d_116_395 hg166 rfl (fun M167 => ?_))))
        refine zG_aln1 (p := 397) d_116_396 rfl (zG_grb (p := 400) d_116_397 ow_116 gf2_14_81 hg162 rfl (fun r168 => ?_))
        refine zG_il6 (p := 402) d_116_400 rfl (zG_grd fun hg169 => (zG_aa51 (p := 403) d_116_402 hg169 rfl (fun r170 => ?_)))
        refine zG_as9 (p := 405) d_116_403 rfl (zG_aln3 (p := 406) d_116_405 rfl (zG_grd fun hg171 => (zG_no (p := 409) d_116_406 ow_116 nw_14_37 hg171 rfl (fun r172 M173 R174 L175 => ?_))))
        refine zG_dup (p := 410) d_116_409 rfl rfl (zG_grd fun hg176 => (zG_cI0v (p := 413) hg176 d_116_410 ow_116 rs2_14_39 kk_117 rfl s117 rfl rfl rfl rfl (fun M177 R178 L179 => ?_)))
        try dsimp only
        refine zG_ldcs (p := 415) d_116_413 ow_116 st_14_87 rfl rfl (zG_grd fun hg180 => (zG_cV1q (p := 418) (c := 11) ⟨ow_128, by decide, zdr_128⟩ hg180 d_116_415 ow_116 rs2_14_62 kk_128 vn_128 rfl s128 rfl rfl rfl rfl (fun r181 M182 R183 L184 => ?_)))
        try dsimp only
        refine zG_al9 (p := 420) d_116_418 rfl (zG_ic (p := 421) d_116_420 ci_0 rfl (zG_grd fun hg185 => (zG_ia (p := 422) d_116_421 hg185 rfl (zG_grd fun hg186 => (zG_cV1q (p := 425) (c := 11) ⟨ow_119, by decide, zdr_119⟩ hg186 d_116_422 ow_116 rs2_14_56 kk_119 vn_119 rfl s119 rfl rfl rfl rfl (fun r187 M188 R189 L190 => ?_))))))
        try dsimp only
        refine zG_ldcs (p := 427) d_116_425 ow_116 st_14_89 rfl rfl (zG_grd fun hg191 => (zG_cV1q (p := 430) (c := 11) ⟨ow_128, by decide, zdr_128⟩ hg191 d_116_427 ow_116 rs2_14_62 kk_128 vn_128 rfl s128 rfl rfl rfl rfl (fun r192 M193 R194 L195 => ?_)))
        try dsimp only
        refine zG_al9 (p := 432) d_116_430 rfl (zG_ic (p := 433) d_116_432 ci_1 rfl (zG_grd fun hg196 => (zG_ia (p := 434) d_116_433 hg196 rfl (zG_grd fun hg197 => (zG_cV1q (p := 437) (c := 11) ⟨ow_119, by decide, zdr_119⟩ hg197 d_116_434 ow_116 rs2_14_56 kk_119 vn_119 rfl s119 rfl rfl rfl rfl (fun r198 M199 R200 L201 => ?_))))))
        try dsimp only
        refine zG_ldcs (p := 439) d_116_437 ow_116 st_14_91 rfl rfl (zG_grd fun hg202 => (zG_cV1q (p := 442) (c := 11) ⟨ow_128, by decide, zdr_128⟩ hg202 d_116_439 ow_116 rs2_14_62 kk_128 vn_128 rfl s128 rfl rfl rfl rfl (fun r203 M204 R205 L206 => ?_)))
        try dsimp only
        refine zG_al9 (p := 444) d_116_442 rfl (zG_ic (p := 445) d_116_444 ci_2 rfl (zG_grd fun hg207 => (zG_ia (p := 446) d_116_445 hg207 rfl (zG_grd fun hg208 => (zG_cV1q (p := 449) (c := 11) ⟨ow_119, by decide, zdr_119⟩ hg208 d_116_446 ow_116 rs2_14_56 kk_119 vn_119 rfl s119 rfl rfl rfl rfl (fun r209 M210 R211 L212 => ?_))))))
        try dsimp only
        refine zG_ldcs (p := 451) d_116_449 ow_116 st_14_93 rfl rfl (zG_grd fun hg213 => (zG_cV1q (p := 454) (c := 11) ⟨ow_128, by decide, zdr_128⟩ hg213 d_116_451 ow_116 rs2_14_62 kk_128 vn_128 rfl s128 rfl rfl rfl rfl (fun r214 M215 R216 L217 => ?_)))
        try dsimp only
        refine zG_al9 (p := 456) d_116_454 rfl (zG_ic (p := 457) d_116_456 ci_3 rfl (zG_grd fun hg218 => (zG_ia (p := 458) d_116_457 hg218 rfl (zG_grd fun hg219 => (zG_cV1q (p := 461) (c := 11) ⟨ow_119, by decide, zdr_119⟩ hg219 d_116_458 ow_116 rs2_14_56 kk_119 vn_119 rfl s119 rfl rfl rfl rfl (fun r220 M221 R222 L223 => ?_))))))
        try dsimp only
        refine zG_ldcs (p := 463) d_116_461 ow_116 st_14_95 rfl rfl (zG_grd fun hg224 => (zG_cV1q (p := 466) (c := 11) ⟨ow_128, by decide, zdr_128⟩ hg224 d_116_463 ow_116 rs2_14_62 kk_128 vn_128 rfl s128 rfl rfl rfl rfl (fun r225 M226 R227 L228 => ?_)))
        try dsimp only
        refine zG_al9 (p := 468) d_116_466 rfl (zG_ic (p := 469) d_116_468 ci_4 rfl (zG_grd fun hg229 => (zG_ia (p := 470) d_116_469 hg229 rfl (zG_grd fun hg230 => (zG_cV1q (p := 473) (c := 11) ⟨ow_119, by decide, zdr_119⟩ hg230 d_116_470 ow_116 rs2_14_56 kk_119 vn_119 rfl s119 rfl rfl rfl rfl (fun r231 M232 R233 L234 => ?_))))))
        try dsimp only
        refine zG_il8 (p := 475) d_116_473 rfl ?_
        refine zG_bind (σ := Unit) (β := Nat × ZI × ZF × ZY) (pj := 508) (lj := fun (b : Nat × ZI × ZF × ZY) (s : Unit) => [.val (.ref 0), .val (.ref a1), .val (.int a2), .val (.ref r93), .val (.int x71), .val (.int v91), .val (.int x111), .val (.int x118), .val (.int x160), .val (.ref r170)]) (sj := fun b => [.ref b.1, .ref r231, .ref r93]) (hj := fun b => (b.2.1, b.2.2.1, b.2.2.2)) ?_ ?_
        · refine zG_zge (p1 := 483) (p2 := 478) d_116_475 (by decide) rfl ?_ ?_
          · refine zG_grd fun hg235 => (zG_no (p := 486) d_116_483 ow_116 nw_14_37 hg235 rfl (fun r236 M237 R238 L239 => ?_))
            refine zG_dup (p := 487) d_116_486 rfl rfl (zG_grd fun hg240 => (zG_cI0v (p := 490) hg240 d_116_487 ow_116 rs2_14_39 kk_117 rfl s117 rfl rfl rfl rfl (fun M241 R242 L243 => ?_)))
            try dsimp only
            refine zG_ldcs (p := 492) d_116_490 ow_116 st_14_97 rfl rfl (zG_grd fun hg244 => (zG_cV1q (p := 495) (c := 11) ⟨ow_128, by decide, zdr_128⟩ hg244 d_116_492 ow_116 rs2_14_62 kk_128 vn_128 rfl s128 rfl rfl rfl rfl (fun r245 M246 R247 L248 => ?_)))
            try dsimp only
            refine zG_il8 (p := 497) d_116_495 rfl (zG_grd fun hg249 => (zG_cV1q (p := 500) (c := 11) ⟨ow_119, by decide, zdr_119⟩ hg249 d_116_497 ow_116 rs2_14_56 kk_119 vn_119 rfl s119 rfl rfl rfl rfl (fun r250 M251 R252 L253 => ?_)))
            try dsimp only
            refine zG_ldcs (p := 502) d_116_500 ow_116 st_14_65 rfl rfl (zG_grd fun hg254 => (zG_cV1q (p := 505) (c := 11) ⟨ow_128, by decide, zdr_128⟩ hg254 d_116_502 ow_116 rs2_14_62 kk_128 vn_128 rfl s128 rfl rfl rfl rfl (fun r255 M256 R257 L258 => ?_)))
            try dsimp only
            refine zG_grd fun hg259 => (zG_cV0q (p := 508) (c := 11) ⟨ow_133, by decide, zdr_133⟩ hg259 d_116_505 ow_116 rs2_14_67 kk_133 vn_133 rfl s133 rfl rfl rfl rfl (fun r260 M261 R262 L263 => ?_))
            try dsimp only
            exact zG_leaf (fun _ _ h => h ())
          · refine zG_ldcs (p := 480) d_116_478 ow_116 st_14_65 rfl rfl (zG_goto (p := 508) d_116_480 (by decide) ?_)
            exact zG_leaf (fun _ _ h => h ())
        · rintro ⟨r264, M265, R266, L267⟩ _
          try dsimp only
          refine zG_grd fun hg268 => (zG_cV1q (p := 511) (c := 11) ⟨ow_128, by decide, zdr_128⟩ hg268 d_116_508 ow_116 rs2_14_62 kk_128 vn_128 rfl s128 rfl rfl rfl rfl (fun r269 M270 R271 L272 => ?_))
          try dsimp only
          refine zG_grd fun hg273 => (zG_cV0q (p := 514) (c := 11) ⟨ow_133, by decide, zdr_133⟩ hg273 d_116_511 ow_116 rs2_14_67 kk_133 vn_133 rfl s133 rfl rfl rfl rfl (fun r274 M275 R276 L277 => ?_))
          try dsimp only
          refine zG_grd fun hg278 => (zG_cV1q (p := 517) (c := 11) ⟨ow_128, by decide, zdr_128⟩ hg278 d_116_514 ow_116 rs2_14_62 kk_128 vn_128 rfl s128 rfl rfl rfl rfl (fun r279 M280 R281 L282 => ?_))
          try dsimp only
          refine zG_pop (p := 518) d_116_517 rfl rfl (zG_ii6 (p := 521) d_116_518 ci_1 rfl (zG_goto (p := 207) d_116_521 (by decide) ?_))
          exact ih (x111 + (1 : Int32)) M280 R281 L282 (.val (.int x118)) (.val (.int x160)) (.val (.ref r170))

theorem s116 {sc : ZS} {d : Nat} {a1 : Nat} {a2 : Int32} {M : ZI} {R : ZF} {L : ZY} : zG sc (d + 77) 116 0 [.val (.ref 0), .val (.ref a1), .val (.int a2), .unset, .unset, .unset, .unset, .unset, .unset, .unset] [] (M, R, L) (g116_texts a1 a2 M R L) gEm := by
  unfold g116_texts
  refine zG_grd fun hg1 => (zG_no (p := 3) d_116_0 ow_116 nw_14_37 hg1 rfl (fun r2 M3 R4 L5 => ?_))
  refine zG_dup (p := 4) d_116_3 rfl rfl (zG_grd fun hg6 => (zG_cI0v (p := 7) hg6 d_116_4 ow_116 rs2_14_39 kk_117 rfl s117 rfl rfl rfl rfl (fun M7 R8 L9 => ?_)))
  try dsimp only
  refine zG_asn3 (p := 8) d_116_7 rfl (zG_ic (p := 9) d_116_8 ci_0 rfl (zG_is4 (p := 11) d_116_9 rfl (zG_aln1 (p := 12) d_116_11 rfl (zG_grd fun hg10 => (zG_gi (p := 15) d_116_12 ow_116 gf2_14_40 hg10 rfl (zG_ic (p := 16) d_116_15 ci_1 rfl (zG_sub (p := 17) d_116_16 rfl ?_)))))))
  refine zG_js5 (p := 19) d_116_17 rfl (fun x11 => ?_)
  refine zG_bind (s116_l19 zfu (0 : Int32) x11 M7 R8 L9 (.unset) (.unset)) ?_
  rintro ⟨x71, M72, R73, L74⟩ ⟨u75, u76, u77⟩
  try dsimp only
  refine zG_aln0 (p := 141) d_116_140 rfl (zG_aln3 (p := 142) d_116_141 rfl (zG_grd fun hg78 => (zG_cV0q (p := 145) (c := 11) ⟨ow_133, by decide, zdr_133⟩ hg78 d_116_142 ow_116 rs2_14_67 kk_133 vn_133 rfl s133 rfl rfl rfl rfl (fun r79 M80 R81 L82 => ?_))))
  try dsimp only
  refine zG_cS2v (p := 148) d_116_145 ow_116 rs2_14_71 kk_145 rfl s145 rfl rfl rfl rfl (fun M83 R84 L85 => ?_)
  try dsimp only
  refine zG_aln0 (p := 149) d_116_148 rfl (zG_ic (p := 150) d_116_149 ci_1 rfl (zG_grd fun hg86 => (zG_k1m (p := 153) hg86 kc_52 d_116_150 ow_116 rs2_14_75 kk_52 rfl (fun q hL => s52 hL) rfl rfl rfl rfl (fun v87 M88 => ?_))))
  try dsimp only
  refine zG_il4 (p := 155) d_116_153 rfl ?_
  refine zG_ceq (p1 := 160) (p2 := 158) d_116_155 (by decide) rfl ?_ ?_
  · refine zG_aln1 (p := 161) d_116_160 rfl (zG_grd fun hg89 => (zG_gi (p := 164) d_116_161 ow_116 gf2_14_40 hg89 rfl ?_))
    refine zG_bind (σ := Unit) (β := Int32) (pj := 180) (lj := fun (b : Int32) (s : Unit) => [.val (.ref 0), .val (.ref a1), .val (.int a2), .val (.ref r2), .val (.int x71), u75, u76, u77, .unset, .unset]) (sj := fun b => [.int b]) (hj := fun b => (M88, R84, L85)) ?_ ?_
    · refine zG_zne (p1 := 171) (p2 := 167) d_116_164 (by decide) rfl ?_ ?_
      · refine zG_iln2 (p := 172) d_116_171 rfl (zG_ic (p := 173) d_116_172 ci_5 rfl (zG_shr (p := 174) d_116_173 rfl (zG_ic (p := 175) d_116_174 ci_0 rfl (zG_bi (p := 177) d_116_175 cb_9 rfl (zG_cS3i (p := 180) d_116_177 ow_116 rs2_14_50 kk_115 rfl s115 rfl rfl rfl rfl (fun v90 => ?_))))))
        exact zG_leaf (fun _ _ h => h ())
      · refine zG_ic (p := 168) d_116_167 ci_0 rfl (zG_goto (p := 180) d_116_168 (by decide) ?_)
        exact zG_leaf (fun _ _ h => h ())
    · rintro v91 _
      try dsimp only
      refine zG_is5 (p := 182) d_116_180 rfl (zG_grd fun hg92 => (zG_no (p := 185) d_116_182 ow_116 nw_14_37 hg92 rfl (fun r93 M94 R95 L96 => ?_)))
      refine zG_dup (p := 186) d_116_185 rfl rfl (zG_grd fun hg97 => (zG_cI0v (p := 189) hg97 d_116_186 ow_116 rs2_14_39 kk_117 rfl s117 rfl rfl rfl rfl (fun M98 R99 L100 => ?_)))
      try dsimp only
      refine zG_asn3 (p := 190) d_116_189 rfl (zG_aln1 (p := 191) d_116_190 rfl (zG_il5 (p := 193) d_116_191 rfl (zG_grd fun hg101 => (zG_grd fun hg102 => (zG_nr51 (p := 196) d_116_193 ow_116 an_14_79 hg101 hg102 rfl (fun r103 M104 R105 L106 => ?_))))))
      refine zG_grd fun hg107 => (zG_grd fun hg108 => (zG_pr (p := 199) d_116_196 ow_116 gf2_14_81 fo_116_10_11 hg107 hg108 rfl (fun R109 => ?_)))
      refine zG_aln1 (p := 200) d_116_199 rfl (zG_ic (p := 201) d_116_200 ci_0 rfl (zG_pi (p := 204) d_116_201 ow_116 gf2_14_84 (Or.inl rfl) (Or.inl rfl) fo_116_10_9 hg107 rfl (fun M110 => ?_)))
      refine zG_ic (p := 205) d_116_204 ci_0 rfl (zG_is6 (p := 207) d_116_205 rfl ?_)
      refine zG_bind (s116_l207 zfu (0 : Int32) M110 R109 L106 (u77) (.unset) (.unset)) ?_
      rintro ⟨M283, R284, L285⟩ ⟨u286, u287, u288, u289⟩
      try dsimp only
      refine zG_aln0 (p := 525) d_116_524 rfl (zG_aln3 (p := 526) d_116_525 rfl (zG_grd fun hg290 => (zG_cV0q (p := 529) (c := 11) ⟨ow_133, by decide, zdr_133⟩ hg290 d_116_526 ow_116 rs2_14_67 kk_133 vn_133 rfl s133 rfl rfl rfl rfl (fun r291 M292 R293 L294 => ?_))))
      try dsimp only
      refine zG_cS2v (p := 532) d_116_529 ow_116 rs2_14_71 kk_145 rfl s145 rfl rfl rfl rfl (fun M295 R296 L297 => ?_)
      try dsimp only
      refine zG_aln0 (p := 533) d_116_532 rfl (zG_ic (p := 534) d_116_533 ci_2 rfl (zG_grd fun hg298 => (zG_k1m (p := 537) hg298 kc_52 d_116_534 ow_116 rs2_14_75 kk_52 rfl (fun q hL => s52 hL) rfl rfl rfl rfl (fun v299 M300 => ?_))))
      try dsimp only
      refine zG_il5 (p := 539) d_116_537 rfl ?_
      refine zG_cne (p1 := 546) (p2 := 542) d_116_539 (by decide) rfl ?_ ?_
      · refine zG_ic (p := 547) d_116_546 ci_0 rfl ?_
        exact zG_retmb d_116_547 rt_116 rfl
      · refine zG_ic (p := 543) d_116_542 ci_1 rfl (zG_goto (p := 547) d_116_543 (by decide) ?_)
        exact zG_retmb d_116_547 rt_116 rfl
  · refine zG_ic (p := 159) d_116_158 ci_0 rfl ?_
    exact zG_retmb d_116_159 rt_116 rfl

theorem s148 {sc : ZS} {d : Nat} {t : Nat} {a1 : Int32} {a2 : Int32} {a3 : Option Nat} {a4 : Option Nat} {M : ZI} {R : ZF} {L : ZY} : zG sc d 148 0 [.val (.ref t), .val (.int a1), .val (.int a2), .val (va_rf a3), .val (va_rf a4)] [] (M, R, L) (g148_init t a1 a2 a3 a4 M R L) gEv := by
  unfold g148_init
  refine zG_aln0 (p := 1) d_148_0 rfl (zG_grd fun hg1 => (zG_obj (p := 4) d_148_1 ow_148 rs2_13_1 hg1 rfl rfl (zG_aln0 (p := 5) d_148_4 rfl (zG_iln1 (p := 6) d_148_5 rfl (zG_grd fun hg2 => (zG_pi (p := 9) d_148_6 ow_148 gf2_13_7 (Or.inl rfl) (Or.inl rfl) fo_148_13_0 hg2 rfl (fun M3 => ?_)))))))
  refine zG_aln0 (p := 10) d_148_9 rfl (zG_iln2 (p := 11) d_148_10 rfl (zG_pi (p := 14) d_148_11 ow_148 gf2_13_13 (Or.inl rfl) (Or.inl rfl) fo_148_13_1 hg2 rfl (fun M4 => ?_)))
  refine zG_aln0 (p := 15) d_148_14 rfl (zG_aon3 (p := 16) d_148_15 rfl (zG_grd fun hg5 => (zG_po (p := 19) d_148_16 ow_148 gf2_13_16 fo_148_13_2 hg2 hg5 rfl (fun R6 => ?_))))
  refine zG_aln0 (p := 20) d_148_19 rfl (zG_ao4 (p := 22) d_148_20 rfl (zG_grd fun hg7 => (zG_po (p := 25) d_148_22 ow_148 gf2_13_20 fo_148_13_3 hg2 hg7 rfl (fun R8 => ?_))))
  exact zG_retv d_148_25 rt_148

theorem s147_b {sc : ZS} {d : Nat} {g : Int32 → Int32 → Int32 → ZI → ZF → ZY → Option (Nat × ZH)} (hg : ∀ {a0 : Int32} {a1 : Int32} {a2 : Int32} {M : ZI} {R : ZF} {L : ZY}, zG sc (d + 1) 147 0 [.val (.int a0), .val (.int a1), .val (.int a2), .unset, .unset] [] (M, R, L) (g a0 a1 a2 M R L) gEq) {a0 : Int32} {a1 : Int32} {a2 : Int32} {M : ZI} {R : ZF} {L : ZY} : zG sc (d + 2) 147 0 [.val (.int a0), .val (.int a1), .val (.int a2), .unset, .unset] [] (M, R, L) (g147_rule_b g a0 a1 a2 M R L) gEq := by
  unfold g147_rule_b
  refine zG_iln0 (p := 1) d_147_0 rfl (zG_iln2 (p := 2) d_147_1 rfl (zG_ic (p := 3) d_147_2 ci_3 rfl (zG_add (p := 4) d_147_3 rfl (zG_mul (p := 5) d_147_4 rfl (zG_si (p := 8) d_147_5 cs_227 rfl (zG_iln2 (p := 9) d_147_8 rfl (zG_mul (p := 10) d_147_9 rfl ?_)))))))
  refine zG_add (p := 11) d_147_10 rfl (zG_jsn3 (p := 12) d_147_11 rfl (fun x1 => ?_))
  refine zG_iln2 (p := 13) d_147_12 rfl (zG_ic (p := 14) d_147_13 ci_2 rfl ?_)
  refine zG_bind (σ := Unit) (β := Int32) (pj := 36) (lj := fun (b : Int32) (s : Unit) => [.val (.int a0), .val (.int a1), .val (.int a2), .val (.int x1), .unset]) (sj := fun b => [.int b]) (hj := fun b => (M, R, L)) ?_ ?_
  · refine zG_cle (p1 := 28) (p2 := 17) d_147_14 (by decide) rfl ?_ ?_
    · refine zG_iln3 (p := 29) d_147_28 rfl (zG_ic (p := 30) d_147_29 ci_4 rfl (zG_shr (p := 31) d_147_30 rfl (zG_ic (p := 32) d_147_31 ci_0 rfl (zG_ic (p := 33) d_147_32 ci_3 rfl (zG_cS3i (p := 36) d_147_33 ow_147 rs2_14_50 kk_115 rfl s115 rfl rfl rfl rfl (fun v2 => ?_))))))
      exact zG_leaf (fun _ _ h => h ())
    · refine zG_iln3 (p := 18) d_147_17 rfl (zG_ic (p := 19) d_147_18 ci_4 rfl (zG_shr (p := 20) d_147_19 rfl (zG_ic (p := 21) d_147_20 ci_0 rfl (zG_ic (p := 22) d_147_21 ci_1 rfl (zG_cS3i (p := 25) d_147_22 ow_147 rs2_14_50 kk_115 rfl s115 rfl rfl rfl rfl (fun v3 => ?_))))))
      refine zG_goto (p := 36) d_147_25 (by decide) ?_
      exact zG_leaf (fun _ _ h => h ())
  · rintro v4 _
    try dsimp only
    refine zG_is4 (p := 38) d_147_36 rfl (zG_il4 (p := 40) d_147_38 rfl ?_)
    refine zG_zne (p1 := 62) (p2 := 43) d_147_40 (by decide) rfl ?_ ?_
    · refine zG_il4 (p := 64) d_147_62 rfl (zG_ic (p := 65) d_147_64 ci_1 rfl ?_)
      refine zG_cne (p1 := 94) (p2 := 68) d_147_65 (by decide) rfl ?_ ?_
      · refine zG_grd fun hg5 => (zG_no (p := 97) d_147_94 ow_147 nw_14_99 hg5 rfl (fun r6 M7 R8 L9 => ?_))
        refine zG_dup (p := 98) d_147_97 rfl rfl (zG_il4 (p := 100) d_147_98 rfl (zG_ic (p := 101) d_147_100 ci_0 rfl (zG_iln3 (p := 102) d_147_101 rfl (zG_ic (p := 103) d_147_102 ci_1 rfl (zG_shr (p := 104) d_147_103 rfl (zG_iln1 (p := 105) d_147_104 rfl (zG_iln2 (p := 106) d_147_105 rfl ?_)))))))
        refine zG_ic (p := 107) d_147_106 ci_1 rfl (zG_add (p := 108) d_147_107 rfl (zG_cS3q (p := 111) d_147_108 ow_147 rs2_14_104 kk_147 rfl hg rfl rfl rfl rfl (fun r10 M11 R12 L13 => ?_)))
        try dsimp only
        refine zG_iln3 (p := 112) d_147_111 rfl (zG_ic (p := 113) d_147_112 ci_3 rfl (zG_shr (p := 114) d_147_113 rfl (zG_iln1 (p := 115) d_147_114 rfl (zG_iln2 (p := 116) d_147_115 rfl (zG_ic (p := 117) d_147_116 ci_1 rfl (zG_add (p := 118) d_147_117 rfl (zG_cS3q (p := 121) d_147_118 ow_147 rs2_14_104 kk_147 rfl hg rfl rfl rfl rfl (fun r14 M15 R16 L17 => ?_))))))))
        try dsimp only
        refine zG_grd fun hg18 => (zG_cI4v (p := 124) hg18 d_147_121 ow_147 rs2_14_101 kk_148 rfl s148 rfl rfl rfl rfl (fun M19 R20 L21 => ?_))
        try dsimp only
        exact zG_retq d_147_124 rfl
      · refine zG_grd fun hg22 => (zG_no (p := 71) d_147_68 ow_147 nw_14_99 hg22 rfl (fun r23 M24 R25 L26 => ?_))
        refine zG_dup (p := 72) d_147_71 rfl rfl (zG_ic (p := 73) d_147_72 ci_1 rfl (zG_iln3 (p := 74) d_147_73 rfl (zG_ic (p := 75) d_147_74 ci_2 rfl (zG_shr (p := 76) d_147_75 rfl (zG_ic (p := 77) d_147_76 ci_1 rfl (zG_bi (p := 79) d_147_77 cb_10 rfl (zG_iln1 (p := 80) d_147_79 rfl ?_)))))))
        refine zG_ic (p := 81) d_147_80 ci_1 rfl (zG_add (p := 82) d_147_81 rfl (zG_min (p := 85) d_147_82 ow_147 rs2_14_8 rfl rfl (zG_cS3i (p := 88) d_147_85 ow_147 rs2_14_50 kk_115 rfl s115 rfl rfl rfl rfl (fun v27 => ?_))))
        refine zG_null (p := 89) d_147_88 rfl (zG_null (p := 90) d_147_89 rfl (zG_grd fun hg28 => (zG_cI4v (p := 93) hg28 d_147_90 ow_147 rs2_14_101 kk_148 rfl s148 rfl rfl rfl rfl (fun M29 R30 L31 => ?_))))
        try dsimp only
        exact zG_retq d_147_93 rfl
    · refine zG_grd fun hg32 => (zG_no (p := 46) d_147_43 ow_147 nw_14_99 hg32 rfl (fun r33 M34 R35 L36 => ?_))
      refine zG_dup (p := 47) d_147_46 rfl rfl (zG_ic (p := 48) d_147_47 ci_0 rfl (zG_iln3 (p := 49) d_147_48 rfl (zG_ic (p := 50) d_147_49 ci_0 rfl (zG_iln1 (p := 51) d_147_50 rfl (zG_ic (p := 52) d_147_51 ci_1 rfl (zG_sub (p := 53) d_147_52 rfl (zG_cS3i (p := 56) d_147_53 ow_147 rs2_14_50 kk_115 rfl s115 rfl rfl rfl rfl (fun v37 => ?_))))))))
      refine zG_null (p := 57) d_147_56 rfl (zG_null (p := 58) d_147_57 rfl (zG_grd fun hg38 => (zG_cI4v (p := 61) hg38 d_147_58 ow_147 rs2_14_101 kk_148 rfl s148 rfl rfl rfl rfl (fun M39 R40 L41 => ?_))))
      try dsimp only
      exact zG_retq d_147_61 rfl

theorem s147 {sc : ZS} {d : Nat} : ∀ (n : Nat) {a0 : Int32} {a1 : Int32} {a2 : Int32} {M : ZI} {R : ZF} {L : ZY}, zG sc (d + 1 + n) 147 0 [.val (.int a0), .val (.int a1), .val (.int a2), .unset, .unset] [] (M, R, L) (g147_rule n a0 a1 a2 M R L) gEq := by
  intro n
  induction n with
  | zero => intros; exact zG_none
  | succ n ih =>
    intro a0 a1 a2 M R L
    rw [show d + 1 + (n + 1) = (d + n) + 2 from by omega]
    exact s147_b (d := d + n) (g := g147_rule n) (fun {a0} {a1} {a2} {M} {R} {L} => by
      rw [show d + n + 1 = d + 1 + n from by omega]
      exact ih)

theorem s149_b {sc : ZS} {d : Nat} {g : Nat → Int32 → ZI → ZF → ZY → Option (Nat × ZH)} (hg : ∀ {t : Nat} {a1 : Int32} {M : ZI} {R : ZF} {L : ZY}, zG sc (d + 6) 149 0 [.val (.ref t), .val (.int a1), .unset] [] (M, R, L) (g t a1 M R L) gEq) {t : Nat} {a1 : Int32} {M : ZI} {R : ZF} {L : ZY} : zG sc (d + 7) 149 0 [.val (.ref t), .val (.int a1), .unset] [] (M, R, L) (g149_text_b g t a1 M R L) gEq := by
  unfold g149_text_b
  refine zG_aln0 (p := 1) d_149_0 rfl (zG_grd fun hg1 => (zG_gi (p := 4) d_149_1 ow_149 gf2_13_7 hg1 rfl ?_))
  refine zG_zne (p1 := 30) (p2 := 7) d_149_4 (by decide) rfl ?_ ?_
  · refine zG_aln0 (p := 31) d_149_30 rfl (zG_gi (p := 34) d_149_31 ow_149 gf2_13_7 hg1 rfl (zG_ic (p := 35) d_149_34 ci_1 rfl ?_))
    refine zG_cne (p1 := 61) (p2 := 38) d_149_35 (by decide) rfl ?_ ?_
    · refine zG_grd fun hg2 => (zG_no (p := 64) d_149_61 ow_149 nw_13_33 hg2 rfl (fun r3 M4 R5 L6 => ?_))
      refine zG_dup (p := 65) d_149_64 rfl rfl (zG_grd fun hg7 => (zG_cI0v (p := 68) hg7 d_149_65 ow_149 rs2_13_35 kk_117 rfl s117 rfl rfl rfl rfl (fun M8 R9 L10 => ?_)))
      try dsimp only
      refine zG_aln0 (p := 69) d_149_68 rfl (zG_grd fun hg11 => (zG_grb (p := 72) d_149_69 ow_149 gf2_13_16 hg11 rfl (fun r12 => ?_)))
      refine zG_aln0 (p := 73) d_149_72 rfl (zG_gi (p := 76) d_149_73 ow_149 gf2_13_7 hg11 rfl (zG_ic (p := 77) d_149_76 ci_2 rfl ?_))
      refine zG_bind (σ := Unit) (β := Int32) (pj := 96) (lj := fun (b : Int32) (s : Unit) => [.val (.ref t), .val (.int a1), .unset]) (sj := fun b => [.int b, .ref r12, .ref r3]) (hj := fun b => (M8, R9, L10)) ?_ ?_
      · refine zG_cne (p1 := 95) (p2 := 80) d_149_77 (by decide) rfl ?_ ?_
        · refine zG_ic (p := 96) d_149_95 ci_0 rfl ?_
          exact zG_leaf (fun _ _ h => h ())
        · refine zG_aln0 (p := 81) d_149_80 rfl (zG_grb (p := 84) d_149_81 ow_149 gf2_13_16 hg11 rfl (fun r13 => ?_))
          refine zG_grd fun hg14 => (zG_gi (p := 87) d_149_84 ow_149 gf2_13_7 hg14 rfl (zG_ic (p := 88) d_149_87 ci_3 rfl ?_))
          refine zG_cne (p1 := 95) (p2 := 91) d_149_88 (by decide) rfl ?_ ?_
          · refine zG_ic (p := 96) d_149_95 ci_0 rfl ?_
            exact zG_leaf (fun _ _ h => h ())
          · refine zG_ic (p := 92) d_149_91 ci_1 rfl (zG_goto (p := 96) d_149_92 (by decide) ?_)
            exact zG_leaf (fun _ _ h => h ())
      · rintro v15 _
        try dsimp only
        refine zG_grd fun hg16 => (zG_cV1q (p := 99) (c := 13) ⟨ow_149, by decide, zdr_149⟩ hg16 d_149_96 ow_149 rs2_13_51 kk_149 vn_149 rfl hg rfl rfl rfl rfl (fun r17 M18 R19 L20 => ?_))
        try dsimp only
        refine zG_grd fun hg21 => (zG_cV1q (p := 102) (c := 11) ⟨ow_128, by decide, zdr_128⟩ hg21 d_149_99 ow_149 rs2_13_38 kk_128 vn_128 rfl s128 rfl rfl rfl rfl (fun r22 M23 R24 L25 => ?_))
        try dsimp only
        refine zG_aln0 (p := 103) d_149_102 rfl (zG_grd fun hg26 => (zG_gi (p := 106) d_149_103 ow_149 gf2_13_7 hg26 rfl (zG_ic (p := 107) d_149_106 ci_2 rfl ?_)))
        refine zG_bind (σ := Unit) (β := Nat) (pj := 117) (lj := fun (b : Nat) (s : Unit) => [.val (.ref t), .val (.int a1), .unset]) (sj := fun b => [.ref b, .ref r22]) (hj := fun b => (M23, R24, L25)) ?_ ?_
        · refine zG_cne (p1 := 115) (p2 := 110) d_149_107 (by decide) rfl ?_ ?_
          · refine zG_ldcs (p := 117) d_149_115 ow_149 st_13_57 rfl rfl ?_
            exact zG_leaf (fun _ _ h => h ())
          · refine zG_ldcs (p := 112) d_149_110 ow_149 st_13_55 rfl rfl (zG_goto (p := 117) d_149_112 (by decide) ?_)
            exact zG_leaf (fun _ _ h => h ())
        · rintro r27 _
          try dsimp only
          refine zG_grd fun hg28 => (zG_cV1q (p := 120) (c := 11) ⟨ow_128, by decide, zdr_128⟩ hg28 d_149_117 ow_149 rs2_13_38 kk_128 vn_128 rfl s128 rfl rfl rfl rfl (fun r29 M30 R31 L32 => ?_))
          try dsimp only
          refine zG_aln0 (p := 121) d_149_120 rfl (zG_grd fun hg33 => (zG_grb (p := 124) d_149_121 ow_149 gf2_13_20 hg33 rfl (fun r34 => ?_)))
          refine zG_aln0 (p := 125) d_149_124 rfl (zG_grb (p := 128) d_149_125 ow_149 gf2_13_20 hg33 rfl (fun r35 => ?_))
          refine zG_grd fun hg36 => (zG_gi (p := 131) d_149_128 ow_149 gf2_13_7 hg36 rfl (zG_ic (p := 132) d_149_131 ci_1 rfl ?_))
          refine zG_bind (σ := Unit) (β := Int32) (pj := 140) (lj := fun (b : Int32) (s : Unit) => [.val (.ref t), .val (.int a1), .unset]) (sj := fun b => [.int b, .ref r34, .ref r29]) (hj := fun b => (M30, R31, L32)) ?_ ?_
          · refine zG_cle (p1 := 139) (p2 := 135) d_149_132 (by decide) rfl ?_ ?_
            · refine zG_ic (p := 140) d_149_139 ci_0 rfl ?_
              exact zG_leaf (fun _ _ h => h ())
            · refine zG_ic (p := 136) d_149_135 ci_1 rfl (zG_goto (p := 140) d_149_136 (by decide) ?_)
              exact zG_leaf (fun _ _ h => h ())
          · rintro v37 _
            try dsimp only
            refine zG_grd fun hg38 => (zG_cV1q (p := 143) (c := 13) ⟨ow_149, by decide, zdr_149⟩ hg38 d_149_140 ow_149 rs2_13_51 kk_149 vn_149 rfl hg rfl rfl rfl rfl (fun r39 M40 R41 L42 => ?_))
            try dsimp only
            refine zG_grd fun hg43 => (zG_cV1q (p := 146) (c := 11) ⟨ow_128, by decide, zdr_128⟩ hg43 d_149_143 ow_149 rs2_13_38 kk_128 vn_128 rfl s128 rfl rfl rfl rfl (fun r44 M45 R46 L47 => ?_))
            try dsimp only
            refine zG_grd fun hg48 => (zG_cV0q (p := 149) (c := 11) ⟨ow_133, by decide, zdr_133⟩ hg48 d_149_146 ow_149 rs2_13_45 kk_133 vn_133 rfl s133 rfl rfl rfl rfl (fun r49 M50 R51 L52 => ?_))
            try dsimp only
            refine zG_asn2 (p := 150) d_149_149 rfl (zG_iln1 (p := 151) d_149_150 rfl ?_)
            refine zG_zeq (p1 := 181) (p2 := 154) d_149_151 (by decide) rfl ?_ ?_
            · refine zG_aln2 (p := 182) d_149_181 rfl ?_
              exact zG_retq d_149_182 rfl
            · refine zG_grd fun hg53 => (zG_no (p := 157) d_149_154 ow_149 nw_13_33 hg53 rfl (fun r54 M55 R56 L57 => ?_))
              refine zG_dup (p := 158) d_149_157 rfl rfl (zG_grd fun hg58 => (zG_cI0v (p := 161) hg58 d_149_158 ow_149 rs2_13_35 kk_117 rfl s117 rfl rfl rfl rfl (fun M59 R60 L61 => ?_)))
              try dsimp only
              refine zG_ldcs (p := 163) d_149_161 ow_149 st_13_59 rfl rfl (zG_grd fun hg62 => (zG_cV1q (p := 166) (c := 11) ⟨ow_128, by decide, zdr_128⟩ hg62 d_149_163 ow_149 rs2_13_38 kk_128 vn_128 rfl s128 rfl rfl rfl rfl (fun r63 M64 R65 L66 => ?_)))
              try dsimp only
              refine zG_aln2 (p := 167) d_149_166 rfl (zG_grd fun hg67 => (zG_cV1q (p := 170) (c := 11) ⟨ow_128, by decide, zdr_128⟩ hg67 d_149_167 ow_149 rs2_13_38 kk_128 vn_128 rfl s128 rfl rfl rfl rfl (fun r68 M69 R70 L71 => ?_)))
              try dsimp only
              refine zG_ldcs (p := 172) d_149_170 ow_149 st_13_61 rfl rfl (zG_grd fun hg72 => (zG_cV1q (p := 175) (c := 11) ⟨ow_128, by decide, zdr_128⟩ hg72 d_149_172 ow_149 rs2_13_38 kk_128 vn_128 rfl s128 rfl rfl rfl rfl (fun r73 M74 R75 L76 => ?_)))
              try dsimp only
              refine zG_grd fun hg77 => (zG_cV0q (p := 178) (c := 11) ⟨ow_133, by decide, zdr_133⟩ hg77 d_149_175 ow_149 rs2_13_45 kk_133 vn_133 rfl s133 rfl rfl rfl rfl (fun r78 M79 R80 L81 => ?_))
              try dsimp only
              refine zG_goto (p := 182) d_149_178 (by decide) ?_
              exact zG_retq d_149_182 rfl
    · refine zG_grd fun hg82 => (zG_no (p := 41) d_149_38 ow_149 nw_13_33 hg82 rfl (fun r83 M84 R85 L86 => ?_))
      refine zG_dup (p := 42) d_149_41 rfl rfl (zG_grd fun hg87 => (zG_cI0v (p := 45) hg87 d_149_42 ow_149 rs2_13_35 kk_117 rfl s117 rfl rfl rfl rfl (fun M88 R89 L90 => ?_)))
      try dsimp only
      refine zG_ldcs (p := 47) d_149_45 ow_149 st_13_49 rfl rfl (zG_grd fun hg91 => (zG_cV1q (p := 50) (c := 11) ⟨ow_128, by decide, zdr_128⟩ hg91 d_149_47 ow_149 rs2_13_38 kk_128 vn_128 rfl s128 rfl rfl rfl rfl (fun r92 M93 R94 L95 => ?_)))
      try dsimp only
      refine zG_aln0 (p := 51) d_149_50 rfl (zG_grd fun hg96 => (zG_gi (p := 54) d_149_51 ow_149 gf2_13_13 hg96 rfl (zG_grd fun hg97 => (zG_cV1q (p := 57) (c := 11) ⟨ow_119, by decide, zdr_119⟩ hg97 d_149_54 ow_149 rs2_13_42 kk_119 vn_119 rfl s119 rfl rfl rfl rfl (fun r98 M99 R100 L101 => ?_)))))
      try dsimp only
      refine zG_grd fun hg102 => (zG_cV0q (p := 60) (c := 11) ⟨ow_133, by decide, zdr_133⟩ hg102 d_149_57 ow_149 rs2_13_45 kk_133 vn_133 rfl s133 rfl rfl rfl rfl (fun r103 M104 R105 L106 => ?_))
      try dsimp only
      exact zG_retq d_149_60 rfl
  · refine zG_grd fun hg107 => (zG_no (p := 10) d_149_7 ow_149 nw_13_33 hg107 rfl (fun r108 M109 R110 L111 => ?_))
    refine zG_dup (p := 11) d_149_10 rfl rfl (zG_grd fun hg112 => (zG_cI0v (p := 14) hg112 d_149_11 ow_149 rs2_13_35 kk_117 rfl s117 rfl rfl rfl rfl (fun M113 R114 L115 => ?_)))
    try dsimp only
    refine zG_ldcs (p := 16) d_149_14 ow_149 st_13_36 rfl rfl (zG_grd fun hg116 => (zG_cV1q (p := 19) (c := 11) ⟨ow_128, by decide, zdr_128⟩ hg116 d_149_16 ow_149 rs2_13_38 kk_128 vn_128 rfl s128 rfl rfl rfl rfl (fun r117 M118 R119 L120 => ?_)))
    try dsimp only
    refine zG_aln0 (p := 20) d_149_19 rfl (zG_grd fun hg121 => (zG_gi (p := 23) d_149_20 ow_149 gf2_13_13 hg121 rfl (zG_grd fun hg122 => (zG_cV1q (p := 26) (c := 11) ⟨ow_119, by decide, zdr_119⟩ hg122 d_149_23 ow_149 rs2_13_42 kk_119 vn_119 rfl s119 rfl rfl rfl rfl (fun r123 M124 R125 L126 => ?_)))))
    try dsimp only
    refine zG_grd fun hg127 => (zG_cV0q (p := 29) (c := 11) ⟨ow_133, by decide, zdr_133⟩ hg127 d_149_26 ow_149 rs2_13_45 kk_133 vn_133 rfl s133 rfl rfl rfl rfl (fun r128 M129 R130 L131 => ?_))
    try dsimp only
    exact zG_retq d_149_29 rfl

theorem s149 {sc : ZS} {d : Nat} : ∀ (n : Nat) {t : Nat} {a1 : Int32} {M : ZI} {R : ZF} {L : ZY}, zG sc (d + 6 + n) 149 0 [.val (.ref t), .val (.int a1), .unset] [] (M, R, L) (g149_text n t a1 M R L) gEq := by
  intro n
  induction n with
  | zero => intros; exact zG_none
  | succ n ih =>
    intro t a1 M R L
    rw [show d + 6 + (n + 1) = (d + n) + 7 from by omega]
    exact s149_b (d := d + n) (g := g149_text n) (fun {t} {a1} {M} {R} {L} => by
      rw [show d + n + 6 = d + 6 + n from by omega]
      exact ih)

theorem s150_b {sc : ZS} {d : Nat} {g : Nat → ZI → ZF → ZY → Option Int32} (hg : ∀ {t : Nat} {M : ZI} {R : ZF} {L : ZY}, zG sc (d + 0) 150 0 [.val (.ref t)] [] (M, R, L) (g t M R L) (gEi (M, R, L))) {t : Nat} {M : ZI} {R : ZF} {L : ZY} : zG sc (d + 1) 150 0 [.val (.ref t)] [] (M, R, L) (g150_size_b g t M R L) (gEi (M, R, L)) := by
  unfold g150_size_b
  refine zG_aln0 (p := 1) d_150_0 rfl (zG_grd fun hg1 => (zG_gi (p := 4) d_150_1 ow_150 gf2_13_7 hg1 rfl (zG_ic (p := 5) d_150_4 ci_2 rfl ?_)))
  refine zG_cge (p1 := 12) (p2 := 8) d_150_5 (by decide) rfl ?_ ?_
  · refine zG_aln0 (p := 13) d_150_12 rfl (zG_grb (p := 16) d_150_13 ow_150 gf2_13_16 hg1 rfl (fun r2 => ?_))
    refine zG_grd fun hg3 => (zG_cV0i (p := 19) (c := 13) ⟨ow_150, by decide, zdr_150⟩ hg3 d_150_16 ow_150 rs2_13_63 kk_150 vn_150 rfl hg rfl rfl rfl rfl (fun v4 => ?_))
    refine zG_aln0 (p := 20) d_150_19 rfl (zG_grb (p := 23) d_150_20 ow_150 gf2_13_20 hg1 rfl (fun r5 => ?_))
    refine zG_grd fun hg6 => (zG_cV0i (p := 26) (c := 13) ⟨ow_150, by decide, zdr_150⟩ hg6 d_150_23 ow_150 rs2_13_63 kk_150 vn_150 rfl hg rfl rfl rfl rfl (fun v7 => ?_))
    refine zG_add (p := 27) d_150_26 rfl ?_
    exact zG_reti d_150_27 rt_150
  · refine zG_ic (p := 9) d_150_8 ci_1 rfl (zG_goto (p := 27) d_150_9 (by decide) ?_)
    exact zG_reti d_150_27 rt_150

theorem s150 {sc : ZS} {d : Nat} : ∀ (n : Nat) {t : Nat} {M : ZI} {R : ZF} {L : ZY}, zG sc (d + 0 + n) 150 0 [.val (.ref t)] [] (M, R, L) (g150_size n t M R L) (gEi (M, R, L)) := by
  intro n
  induction n with
  | zero => intros; exact zG_none
  | succ n ih =>
    intro t M R L
    rw [show d + 0 + (n + 1) = (d + n) + 1 from by omega]
    exact s150_b (d := d + n) (g := g150_size n) (fun {t} {M} {R} {L} => by
      rw [show d + n + 0 = d + 0 + n from by omega]
      exact ih)

theorem s146 {sc : ZS} {d : Nat} {a1 : Nat} {a2 : Int32} {M : ZI} {R : ZF} {L : ZY} : zG sc (d + 77) 146 0 [.val (.ref 0), .val (.ref a1), .val (.int a2)] [] (M, R, L) (g146_council a1 a2 M R L) gEm := by
  unfold g146_council
  refine zG_aln1 (p := 1) d_146_0 rfl (zG_aln1 (p := 2) d_146_1 rfl (zG_grd fun hg1 => (zG_gi (p := 5) d_146_2 ow_146 gf2_14_40 hg1 rfl ?_)))
  refine zG_bind (σ := Unit) (β := Option Nat × ZI × ZF × ZY) (pj := 30) (lj := fun (b : Option Nat × ZI × ZF × ZY) (s : Unit) => [.val (.ref 0), .val (.ref a1), .val (.int a2)]) (sj := fun b => [va_rf b.1, .ref a1]) (hj := fun b => (b.2.1, b.2.2.1, b.2.2.2)) ?_ ?_
  · refine zG_zeq (p1 := 17) (p2 := 8) d_146_5 (by decide) rfl ?_ ?_
    · refine zG_null (p := 18) d_146_17 rfl (zG_goto (p := 30) d_146_18 (by decide) ?_)
      exact zG_leaf (fun _ _ h => h ())
    · refine zG_iln2 (p := 9) d_146_8 rfl (zG_bi (p := 11) d_146_9 cb_6 rfl (zG_shr (p := 12) d_146_11 rfl (zG_ic (p := 13) d_146_12 ci_3 rfl (zG_and (p := 14) d_146_13 rfl ?_))))
      refine zG_zne (p1 := 21) (p2 := 17) d_146_14 (by decide) rfl ?_ ?_
      · refine zG_iln2 (p := 22) d_146_21 rfl (zG_aln1 (p := 23) d_146_22 rfl (zG_gi (p := 26) d_146_23 ow_146 gf2_14_40 hg1 rfl (zG_ic (p := 27) d_146_26 ci_0 rfl (zG_cS3q (p := 30) d_146_27 ow_146 rs2_14_104 kk_147 rfl (s147 zgr) rfl rfl rfl rfl (fun r2 M3 R4 L5 => ?_)))))
        try dsimp only
        exact zG_leaf (fun _ _ h => h ())
      · refine zG_null (p := 18) d_146_17 rfl (zG_goto (p := 30) d_146_18 (by decide) ?_)
        exact zG_leaf (fun _ _ h => h ())
  · rintro ⟨w6, M7, R8, L9⟩ _
    try dsimp only
    refine zG_grd fun hg10 => (zG_grd fun hg11 => (zG_po (p := 33) d_146_30 ow_146 gf2_14_108 fo_146_10_13 hg10 hg11 rfl (fun R12 => ?_)))
    refine zG_aln1 (p := 34) d_146_33 rfl (zG_gro (p := 37) d_146_34 ow_146 gf2_14_108 hg10 rfl ?_)
    refine zG_nuo (p1 := 65) (p2 := 40) d_146_37 (by decide) rfl (fun _ => ?_) (fun r13 hr14 => ?_)
    · refine zG_aln0 (p := 66) d_146_65 rfl (zG_ic (p := 67) d_146_66 ci_3 rfl (zG_grd fun hg15 => (zG_k1m (p := 70) hg15 kc_52 d_146_67 ow_146 rs2_14_75 kk_52 rfl (fun q hL => s52 hL) rfl rfl rfl rfl (fun v16 M17 => ?_))))
      try dsimp only
      refine zG_aln1 (p := 71) d_146_70 rfl (zG_gro (p := 74) d_146_71 ow_146 gf2_14_108 hg10 rfl ?_)
      refine zG_nno (p1 := 81) (p2 := 77) d_146_74 (by decide) rfl (fun _ => ?_) (fun r18 hr19 => ?_)
      · refine zG_ic (p := 78) d_146_77 ci_0 rfl (zG_goto (p := 88) d_146_78 (by decide) ?_)
        refine zG_cne (p1 := 95) (p2 := 91) d_146_88 (by decide) rfl ?_ ?_
        · refine zG_ic (p := 96) d_146_95 ci_0 rfl ?_
          exact zG_retmb d_146_96 rt_146 rfl
        · refine zG_ic (p := 92) d_146_91 ci_1 rfl (zG_goto (p := 96) d_146_92 (by decide) ?_)
          exact zG_retmb d_146_96 rt_146 rfl
      · skip
        refine zG_aln1 (p := 82) d_146_81 rfl (zG_grb (p := 85) d_146_82 ow_146 gf2_14_108 hg10 rfl (fun r20 => ?_))
        refine zG_grd fun hg21 => (zG_cV0i (p := 88) (c := 13) ⟨ow_150, by decide, zdr_150⟩ hg21 d_146_85 ow_146 rs2_14_114 kk_150 vn_150 rfl (s150 zgr) rfl rfl rfl rfl (fun v22 => ?_))
        refine zG_cne (p1 := 95) (p2 := 91) d_146_88 (by decide) rfl ?_ ?_
        · refine zG_ic (p := 96) d_146_95 ci_0 rfl ?_
          exact zG_retmb d_146_96 rt_146 rfl
        · refine zG_ic (p := 92) d_146_91 ci_1 rfl (zG_goto (p := 96) d_146_92 (by decide) ?_)
          exact zG_retmb d_146_96 rt_146 rfl
    · skip
      refine zG_aln0 (p := 41) d_146_40 rfl (zG_aln1 (p := 42) d_146_41 rfl (zG_grb (p := 45) d_146_42 ow_146 gf2_14_108 hg10 rfl (fun r23 => ?_)))
      refine zG_iln2 (p := 46) d_146_45 rfl (zG_ic (p := 47) d_146_46 ci_5 rfl (zG_shr (p := 48) d_146_47 rfl (zG_ic (p := 49) d_146_48 ci_1 rfl (zG_and (p := 50) d_146_49 rfl (zG_ic (p := 51) d_146_50 ci_1 rfl ?_)))))
      refine zG_bind (σ := Unit) (β := Int32) (pj := 59) (lj := fun (b : Int32) (s : Unit) => [.val (.ref 0), .val (.ref a1), .val (.int a2)]) (sj := fun b => [.int b, .ref r23, .ref 0]) (hj := fun b => (M7, R12, L9)) ?_ ?_
      · refine zG_cne (p1 := 58) (p2 := 54) d_146_51 (by decide) rfl ?_ ?_
        · refine zG_ic (p := 59) d_146_58 ci_0 rfl ?_
          exact zG_leaf (fun _ _ h => h ())
        · refine zG_ic (p := 55) d_146_54 ci_1 rfl (zG_goto (p := 59) d_146_55 (by decide) ?_)
          exact zG_leaf (fun _ _ h => h ())
      · rintro v24 _
        try dsimp only
        refine zG_grd fun hg25 => (zG_cV1q (p := 62) (c := 13) ⟨ow_149, by decide, zdr_149⟩ hg25 d_146_59 ow_146 rs2_14_111 kk_149 vn_149 rfl (s149 zgr) rfl rfl rfl rfl (fun r26 M27 R28 L29 => ?_))
        try dsimp only
        refine zG_cS2v (p := 65) d_146_62 ow_146 rs2_14_71 kk_145 rfl s145 rfl rfl rfl rfl (fun M30 R31 L32 => ?_)
        try dsimp only
        refine zG_aln0 (p := 66) d_146_65 rfl (zG_ic (p := 67) d_146_66 ci_3 rfl (zG_grd fun hg33 => (zG_k1m (p := 70) hg33 kc_52 d_146_67 ow_146 rs2_14_75 kk_52 rfl (fun q hL => s52 hL) rfl rfl rfl rfl (fun v34 M35 => ?_))))
        try dsimp only
        refine zG_aln1 (p := 71) d_146_70 rfl (zG_grd fun hg36 => (zG_gro (p := 74) d_146_71 ow_146 gf2_14_108 hg36 rfl ?_))
        refine zG_nno (p1 := 81) (p2 := 77) d_146_74 (by decide) rfl (fun _ => ?_) (fun r37 hr38 => ?_)
        · refine zG_ic (p := 78) d_146_77 ci_0 rfl (zG_goto (p := 88) d_146_78 (by decide) ?_)
          refine zG_cne (p1 := 95) (p2 := 91) d_146_88 (by decide) rfl ?_ ?_
          · refine zG_ic (p := 96) d_146_95 ci_0 rfl ?_
            exact zG_retmb d_146_96 rt_146 rfl
          · refine zG_ic (p := 92) d_146_91 ci_1 rfl (zG_goto (p := 96) d_146_92 (by decide) ?_)
            exact zG_retmb d_146_96 rt_146 rfl
        · skip
          refine zG_aln1 (p := 82) d_146_81 rfl (zG_grb (p := 85) d_146_82 ow_146 gf2_14_108 hg36 rfl (fun r39 => ?_))
          refine zG_grd fun hg40 => (zG_cV0i (p := 88) (c := 13) ⟨ow_150, by decide, zdr_150⟩ hg40 d_146_85 ow_146 rs2_14_114 kk_150 vn_150 rfl (s150 zgr) rfl rfl rfl rfl (fun v41 => ?_))
          refine zG_cne (p1 := 95) (p2 := 91) d_146_88 (by decide) rfl ?_ ?_
          · refine zG_ic (p := 96) d_146_95 ci_0 rfl ?_
            exact zG_retmb d_146_96 rt_146 rfl
          · refine zG_ic (p := 92) d_146_91 ci_1 rfl (zG_goto (p := 96) d_146_92 (by decide) ?_)
            exact zG_retmb d_146_96 rt_146 rfl

