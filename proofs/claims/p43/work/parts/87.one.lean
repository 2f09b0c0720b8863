theorem one_step {b : Nat → Nat} {t n N d h6 h7 hh : Nat} {A0 B0 : ZI} {g76 g77 : Nat → Nat → Int32 → Int32 → ZI → Option (Int32 × ZI)} {r175 r177 : ZI → Option (Int32 × ZI)} (hC : CX 0 b t n N A0 B0) (hd : d ≤ 8) (h76 : d < 8 → OneOK b t N A0 B0 (g76 119 125 0 (znn (d + 1))) r175 (d + 1) h6) (h77 : d < 8 → OneOK b t N A0 B0 (g77 119 125 0 (znn (d + 1))) r177 (d + 1) h7) (g4 : 4 ≤ hh) (g6 : d < 8 → h6 ≤ hh) (g7 : d < 8 → h7 ≤ hh) :
    OneOK b t N A0 B0 (fun A => f77_readOne_b g76 g77 119 125 0 (znn d) A) (fun B => f177_oneTest_b r175 r177 B) d hh := by
  intro m c A B h hc hcm h27
  have hN := hC.2.1.1
  have hA7 : A 119 7 = tkK b t m := h.2.1.2.1
  have hB21 : B 148 21 = tkT 0 b t m := h.2.2.2.2.1
  have i40 := tk_iff (a := 0) (k := 40) (x := 140) (by decide +kernel) b t m
  have i262 := tk_iff (a := 0) (k := 262) (x := 6) (by decide +kernel) b t m
  dsimp only
  unfold f77_readOne_b f177_oneTest_b f178_opens
  rw [zlet_e, zlet_e, hA7, hB21, h27]
  by_cases k40 : tkK b t m = 40
  · have hm : m < N := pos_N hC h k40 (by decide)
    rw [if_pos k40, if_neg (show ¬ tkT 0 b t m = 6 by rw [i40.mp k40]; decide), if_pos (i40.mp k40)]
    dsimp only
    by_cases hd8 : d < 8
    · rw [if_pos (show znn d < 8 by rw [zl8, zn_lt (by omega) (by decide)]; exact hd8), if_neg (show ¬ znn d = 8 by rw [zl8, zn_eq (by omega) (by decide)]; omega), zlet_e, hA7, if_neg (show ¬ tkK b t m = 262 by rw [k40]; decide), Option.bind_some, zadd1]
      obtain ⟨A1, B1, e1, e2, e3, e4, e5, e6⟩ := fwdL hC (PS_27 h (znn (d + 1))) (LC_27 hc (znn (d + 1))) hm
      rw [e1, e2, Option.bind_some, Option.bind_some, Option.bind_some, if_pos rfl]
      dsimp only
      rw [if_neg (show ¬ (1 : Int32) = 0 by decide)]
      refine both_bind (h76 hd8 (m + 1) c A1 B1 e3 e4 (by omega) (by rw [e5.2.2.1 27 rfl, zs_sm, if_pos rfl])) (fun _ => rfl) (fun _ => rfl) (fun A2 B2 hq => ?_)
      obtain ⟨m2, c2, q1, q2, q3, q4, q5, q6, q7⟩ := hq
      have hm2 := q1.1.2.2
      dsimp only
      rw [if_neg (show ¬ (1 : Int32) = 0 by decide), if_neg (show ¬ (1 : Int32) = 0 by decide)]
      rcases skip_need (k := 41) (x := 141) hC q1 (by decide +kernel) (by decide) with ⟨s1, s2, s3⟩ | ⟨A', B', r1, r2, r3⟩
      · obtain ⟨A3, B3, l1, l2, l3, l4, l5, l6⟩ := fwdL hC q1 q2 s1
        have K := keepL_trans (keepL_trans e5 q3 (Nat.le_refl _)) l5 q5
        have w27 : B3 148 27 = znn (d + 1) := by rw [l5.2.2.1 27 rfl, q3.2.2.1 27 rfl, e5.2.2.1 27 rfl, zs_sm, if_pos rfl]
        rw [s2, s3, l1, l2, Option.bind_some, Option.bind_some, Option.bind_some, Option.bind_some]
        dsimp only
        rw [if_neg (show ¬ (1 : Int32) = 0 by decide), if_neg (show ¬ (1 : Int32) = 0 by decide), zlet_e, w27, zl1, zn_sub (by omega), show d + 1 - 1 = d by omega]
        refine Or.inr ⟨A3, _, rfl, rfl, m2 + 1, c2, PS_27 l3 _, LC_27 l4 _, keep27 K h27.symm, by omega, by omega, by omega, ?_⟩
        exact pushes_27 (pushes_keep (pushes_mono q7 (g6 hd8)) l5.2.2.2) _
      · rw [r1, r2, Option.bind_some, Option.bind_some]
        exact Or.inl ⟨A', B', rfl, rfl, r3⟩
    · obtain ⟨A', B', r1, r2, r3⟩ := rfz hC h 3
      rw [if_neg (show ¬ znn d < 8 by rw [zl8, zn_lt (by omega) (by decide)]; exact hd8), if_pos (show znn d = 8 by rw [zl8, zn_eq (by omega) (by decide)]; omega), r1, r2]
      exact Or.inl ⟨A', B', rfl, rfl, r3⟩
  · rw [if_neg k40]
    by_cases k262 : tkK b t m = 262
    · have hm : m < N := pos_N hC h k262 (by decide)
      rw [if_pos k262, if_pos rfl, if_pos (i262.mp k262)]
      dsimp only
      by_cases hd8 : d < 8
      · rw [if_pos (show znn d < 8 by rw [zl8, zn_lt (by omega) (by decide)]; exact hd8), if_neg (show ¬ znn d = 8 by rw [zl8, zn_eq (by omega) (by decide)]; omega), zlet_e, hA7, if_pos k262, Option.bind_some, zadd1]
        obtain ⟨A1, B1, e1, e2, e3, e4, e5, e6⟩ := fwdL hC (PS_27 h (znn (d + 1))) (LC_27 hc (znn (d + 1))) hm
        rw [e1, e2, Option.bind_some, Option.bind_some, Option.bind_some, if_neg (show ¬ (1 : Int32) = 0 by decide)]
        dsimp only
        rw [if_neg (show ¬ (1 : Int32) = 0 by decide)]
        refine both_bind (h77 hd8 (m + 1) c A1 B1 e3 e4 (by omega) (by rw [e5.2.2.1 27 rfl, zs_sm, if_pos rfl])) (fun _ => rfl) (fun _ => rfl) (fun A2 B2 hq => ?_)
        obtain ⟨m2, c2, q1, q2, q3, q4, q5, q6, q7⟩ := hq
        have hm2 := q1.1.2.2
        have w27 : B2 148 27 = znn (d + 1) := by rw [q3.2.2.1 27 rfl, e5.2.2.1 27 rfl, zs_sm, if_pos rfl]
        dsimp only
        rw [if_neg (show ¬ (1 : Int32) = 0 by decide), if_neg (show ¬ (1 : Int32) = 0 by decide), zlet_e, w27, zl1, zn_sub (by omega), show d + 1 - 1 = d by omega]
        have K := keep27 (y := znn d) (keepL_trans e5 q3 (Nat.le_refl _)) h27.symm
        obtain ⟨A3, B3, l1, l2, l3, l4, l5, -, l6, -⟩ := layL (PS_27 q1 (znn d)) (LC_27 q2 (znn d)) (by omega) op262
        rw [l1, l2]
        refine Or.inr ⟨A3, B3, rfl, rfl, m2, c2 + 1, l3, l4, keepL_trans K l5 q5, by omega, by omega, by omega, ?_⟩
        exact pushes_not (pushes_keep (pushes_27 (pushes_mono q7 (g7 hd8)) (znn d)) l5.2.2.2) l6
      · obtain ⟨A', B', r1, r2, r3⟩ := rfz hC h 3
        rw [if_neg (show ¬ znn d < 8 by rw [zl8, zn_lt (by omega) (by decide)]; exact hd8), if_pos (show znn d = 8 by rw [zl8, zn_eq (by omega) (by decide)]; omega), r1, r2]
        exact Or.inl ⟨A', B', rfl, rfl, r3⟩
    · rw [if_neg k262, if_neg (fun hx => k262 (i262.mpr hx)), if_neg (fun hx => k40 (i40.mpr hx))]
      dsimp only
      rw [if_pos rfl]
      refine both_bind (sum_step hC h hc hcm) (fun _ => rfl) (fun _ => rfl) (fun A1 B1 hq => ?_)
      obtain ⟨m1, c1, q1, q2, q3, q4, q5, q6, q7⟩ := hq
      have hA1 : A1 119 7 = tkK b t m1 := q1.2.1.2.1
      have hB1 : B1 148 21 = tkT 0 b t m1 := q1.2.2.2.2.1
      dsimp only
      rw [if_neg (show ¬ (1 : Int32) = 0 by decide), if_neg (show ¬ (1 : Int32) = 0 by decide), zlet_e, zlet_e, hA1]
      simp only [hB1]
      have i60 := tk_iff (a := 0) (k := 60) (x := 160) (by decide +kernel) b t m1
      have i61 := tk_iff (a := 0) (k := 61) (x := 161) (by decide +kernel) b t m1
      have i62 := tk_iff (a := 0) (k := 62) (x := 162) (by decide +kernel) b t m1
      have step : ∀ k s : Int32, m1 < N → opRel k 0 s 0 → (¬ s < 23 ∧ s ≠ 26 ∧ s ≠ 30) → (s = 27 ∨ s = 28 ∨ s = 29) → s ≠ -1 → Both A0 B0 ((f68_forward 119 A1).bind fun M19 => (f71_readSum 119 125 M19).bind fun (v20, M21) => (if v20 = 0 then some ((0 : Int32), M21) else (f74_add 125 k (0 : Int32) M21).bind fun M22 => some ((1 : Int32), M22))) ((some s).bind fun v3 => (if v3 = (-1 : Int32) then (f170_bad (1 : Int32) B1).bind fun (v8, M9) => if zbl v8 = true then some (v8, M9) else none else (f157_next0 B1).bind fun M4 => (f171_sumUp M4).bind fun (v5, M6) => (if v5 = 0 then some ((0 : Int32), M6) else (f174_lay v3 (0 : Int32) M6).bind fun M7 => some ((1 : Int32), M7)))) (LQ b t N A0 B0 A B m c 1 (fun B' c' => pushes B' c c' hh bitV)) := by
        intro k s hm1 hr hs1 hs2 hs3
        obtain ⟨A2, B2, e1, e2, e3, e4, e5, e6⟩ := fwdL hC q1 q2 hm1
        rw [Option.bind_some, if_neg hs3, e1, e2, Option.bind_some, Option.bind_some]
        refine both_bind (sum_step hC e3 e4 (by omega)) (fun _ => rfl) (fun _ => rfl) (fun A3 B3 hq => ?_)
        obtain ⟨m3, c3, w1, w2, w3, w4, w5, w6, w7⟩ := hq
        have hm3 := w1.1.2.2
        dsimp only
        obtain ⟨A4, B4, l1, l2, l3, l4, l5, -, l6, -⟩ := layL w1 w2 (by omega) hr
        rw [if_neg (show ¬ (1 : Int32) = 0 by decide), if_neg (show ¬ (1 : Int32) = 0 by decide), l1, l2]
        have K := keepL_trans (keepL_trans e5 w3 (Nat.le_refl _)) l5 w5
        refine Or.inr ⟨A4, B4, rfl, rfl, m3, c3 + 1, l3, l4, keepL_trans q3 K q5, by omega, by omega, by omega, ?_⟩
        exact pushes_two (pushes_keep q7 K.2.2.2) (pushes_keep w7 l5.2.2.2) (by omega) g4 s l6 hs1 (both_cmp hs2)
      by_cases k60 : tkK b t m1 = 60
      · rw [if_pos k60, if_pos (i60.mp k60)]
        rw [k60]
        exact step 60 27 (pos_N hC q1 k60 (by decide)) op60 (by decide) (Or.inl rfl) (by decide)
      · rw [if_neg k60, if_neg (fun hx => k60 (i60.mpr hx))]
        by_cases k61 : tkK b t m1 = 61
        · rw [if_pos k61, if_pos (i61.mp k61)]
          rw [k61]
          exact step 61 28 (pos_N hC q1 k61 (by decide)) op61 (by decide) (Or.inr (Or.inl rfl)) (by decide)
        · rw [if_neg k61, if_neg (fun hx => k61 (i61.mpr hx))]
          by_cases k62 : tkK b t m1 = 62
          · rw [if_pos k62, if_pos (i62.mp k62)]
            rw [k62]
            exact step 62 29 (pos_N hC q1 k62 (by decide)) op62 (by decide) (Or.inr (Or.inr rfl)) (by decide)
          · rw [if_neg k62, if_neg (fun hx => k62 (i62.mpr hx)), Option.bind_some, if_pos rfl]
            exact both_rfz hC q1 1 (fun _ => rfl) (fun _ => rfl)
