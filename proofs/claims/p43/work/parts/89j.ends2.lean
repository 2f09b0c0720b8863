/-- the VOICES are told -/
theorem end_voices {A A' B B' : ZI} {n k c b : Nat} (h0 : Inv5 A B n k c b) (h6 : pastIs A B n) (h7 : imgIs A B) (hA : KA A A') (hB : KB B B') (a10 : A' 119 10 = 0) (a11 : A' 119 11 = -1) (hv : VC A' B' n) :
    ∃ A'' B'' v, ((f11_forgetPasts A').bind fun M7 => zlet (zc M7 39 133 0 0 10) fun (M8 : ZI) => (f84_voices 1 M8).bind fun v9 => some (v9, M8)) = some (v, A'') ∧ f194_putsVoices (zs B' 148 19 0) = some (v, B'') ∧ Inv2 A'' B'' ∧ (∀ o, 148 ≤ o → A'' o = A o) ∧ ∀ o, o < 148 → B'' o = B o := by
  obtain ⟨h1, h2, h3, h4, h5⟩ := h0
  obtain ⟨v1, v2, v3⟩ := hv
  have m155 : (zs B' 148 19 0) 155 = B' 155 := by rw [zs_df (by decide)]
  obtain ⟨B2, e1, e2, e3, e4, e5, e6, e7⟩ := puts_voices (M := zs B' 148 19 0) (k := voiceN (dftV B') n) (by rw [zs_sm, if_neg (by decide)]; exact v3)
  rw [m155] at e6
  have rowO : ∀ j, j ≠ 51 → ¬ (80 ≤ j ∧ j < 90) → B2 149 j = B 149 j := fun j q1 q2 => by rw [e7 j q1 q2, zs_df (by decide), hB.1 149 (by decide) (by omega)]
  have gA : ∀ o, o ≠ 0 → o ≠ 39 → ¬ (119 ≤ o ∧ o ≤ 146) → (zc (zs A' 0 5 0) 39 133 0 0 10) o = A o := fun o q1 q2 q3 => by rw [zc_df q2, zs_df q1]; exact hA.1 o q3
  have g0 : ∀ j, (zc (zs A' 0 5 0) 39 133 0 0 10) 0 j = if j = 5 then 0 else A 0 j := fun j => by rw [zc_df (by decide), zs_sm, hA.1 0 (by omega)]
  have g39 : ∀ j, j < 10 → (zc (zs A' 0 5 0) 39 133 0 0 10) 39 j = B' 155 j := fun j hj => by rw [zc_sm, if_pos hj, zs_df (by decide)]; exact v1 j hj
  have g119 : (zc (zs A' 0 5 0) 39 133 0 0 10) 119 = A' 119 := by rw [zc_df (by decide), zs_df (by decide)]
  have hd : ((f11_forgetPasts A').bind fun M7 => zlet (zc M7 39 133 0 0 10) fun (M8 : ZI) => (f84_voices 1 M8).bind fun v9 => some (v9, M8)) = (f84_voices 1 (zc (zs A' 0 5 0) 39 133 0 0 10)).bind fun v9 => some (v9, zc (zs A' 0 5 0) 39 133 0 0 10) := rfl
  rw [hd]
  generalize zc (zs A' 0 5 0) 39 133 0 0 10 = A2 at *
  have gB : ∀ o, o ≠ 149 → o ≠ 148 → ¬ (153 ≤ o ∧ o ≤ 157) → B2 o = B o := fun o q1 q2 q3 => by rw [e2 o q1 q2, zs_df q2, hB.1 o q2 q3]
  have hn10 := h2.1.1
  have vN : voiceN (B2 149) n = voiceN (dftV B') n := voiceN_P n (fun p hp => by rw [dftV_0]; exact e6 p (by omega))
  have fp1 : pplIs A2 1 (B2 149) n := by
    obtain ⟨p1, p2⟩ := h1.1
    refine ⟨by rw [gA 1 (by decide) (by decide) (by omega), rowO 48 (by decide) (by omega), rowO 49 (by decide) (by omega), rowO 50 (by decide) (by omega), rowO 56 (by decide) (by omega), rowO 57 (by decide) (by omega)]; exact p1, fun p hp => ?_⟩
    rw [show 1 + 36 = 37 from rfl, show 1 + 37 = 38 from rfl, show 1 + 38 = 39 from rfl, gA 37 (by decide) (by decide) (by omega), gA 38 (by decide) (by decide) (by omega), rowO (60 + p) (by omega) (by omega), rowO (70 + p) (by omega) (by omega), g39 p (by omega), e6 p (by omega)]
    exact ⟨(p2 p hp).1, (p2 p hp).2.1, rfl⟩
  have fp2 : pplOk (B2 149) n := by
    obtain ⟨p1, p2, p3, p4, p5, p6, p7, p8⟩ := h2.1
    refine ⟨p1, by rw [rowO 48 (by decide) (by omega)]; exact p2, by rw [rowO 49 (by decide) (by omega)]; exact p3, by rw [rowO 50 (by decide) (by omega)]; exact p4, by rw [rowO 56 (by decide) (by omega)]; exact p5, by rw [rowO 57 (by decide) (by omega)]; exact p6, by rw [e5, vN], fun p hp => ?_⟩
    rw [rowO (60 + p) (by omega) (by omega), rowO (70 + p) (by omega) (by omega), e6 p (by omega)]
    exact ⟨(p8 p hp).1, (p8 p hp).2.1, v2 p (by omega)⟩
  have hvo : f84_voices 1 A2 = some (znn (voiceN (dftV B') n)) := by rw [voices_eq fp1 fp2.2.1 hn10, vN]
  obtain ⟨-, i2, i3, i4, i5⟩ := h1
  obtain ⟨-, o2, o3, o4, o5, o6⟩ := h2
  have hk12 := o3.1
  refine ⟨A2, B2, _, by rw [hvo]; rfl, e1, Inv2_new ⟨fp1, lawIs_L (rowO 58 (by decide) (by omega)) (fun j q1 => rowO j (by omega) (by omega)) (lawIs_of i2 (fun o ho => gA o (by omega) (by omega) (by omega))), wrkIs_W (rowO 52 (by decide) (by omega)) (fun j q1 q2 => rowO j (by omega) (by omega)) hk12 (wrkIs_of i3 (by rw [gA 21 (by omega) (by omega) (by omega)]) (fun o q1 q2 => gA o (by omega) (by omega) (by omega))), ruleIs_C (rowO 53 (by decide) (by omega)) (rowO 54 (by decide) (by omega)) (fun j q1 q2 => rowO j (by omega) (by omega)) o4 (ruleIs_of i4 (fun o q1 q2 => gA o (by omega) (by omega) (by omega))), bidIs_D (rowO 55 (by decide) (by omega)) (fun j q1 q2 => rowO j (by omega) (by omega)) o5 (bidIs_of i5 (fun o q1 q2 => gA o (by omega) (by omega) (by omega)))⟩ ⟨fp2, lawOk_L (rowO 58 (by decide) (by omega)) (fun j q1 => rowO j (by omega) (by omega)) o2, wrkOk_W (rowO 52 (by decide) (by omega)) (fun j q1 q2 => rowO j (by omega) (by omega)) (Nat.le_refl _) o3, ruleOk_C (rowO 53 (by decide) (by omega)) (rowO 54 (by decide) (by omega)) (fun j q1 q2 => rowO j (by omega) (by omega)) o4, o5, by rw [rowO 55 (by decide) (by omega)]; exact o6⟩ (momIs_row (momIs_of h3 (fun q q1 q2 => gA q (by omega) (by omega) (by omega))) hn10 (fun j hj => rowO j (by omega) (by omega))) (momOk_row h4 hn10 (fun j hj => rowO j (by omega) (by omega))) h5 (forget_past h6 (by rw [g0, if_neg (by decide)]) (by rw [g0, if_pos rfl]) e4) h7 (fun o ho => gA o (by omega) (by omega) (by omega)) (by rw [g0, if_neg (by decide)]) (gB 150 (by decide) (by decide) (by omega)) ?_ (fun j q1 q2 => rowO j (by omega) (by omega)) (by rw [g119]; exact hA.2) ?_ ?_ ?_, fun o ho => gA o (by omega) (by omega) (by omega), fun o ho => gB o (by omega) (by omega) (by omega)⟩
  · rw [e3 5 (by decide), zs_sm, if_neg (by decide)]; exact hB.2.2.2.2
  · rw [e3 19 (by decide), zs_sm, if_pos rfl]
  · rw [g119, e3 26 (by decide), zs_sm, if_neg (by decide), a10, hB.2.1]
  · rw [g119, e3 28 (by decide), zs_sm, if_neg (by decide), a11, hB.2.2.1]
/-- the WORKS are told -/
theorem end_works {A A' B B' : ZI} {n k c b k' : Nat} (h0 : Inv5 A B n k c b) (h6 : pastIs A B n) (h7 : imgIs A B) (hA : KA A A') (hB : KB B B') (a10 : A' 119 10 = 0) (a11 : A' 119 11 = -1) (hw : WC A' B' n k') :
    ∃ A'' B'' v, ((f11_forgetPasts A').bind fun M12 => (f88_copy 21 134 M12).bind fun M13 => zlet (zs M13 2 8 (0 : Int32)) fun (M14 : ZI) => some ((M14 21 6), M14)) = some (v, A'') ∧ f195_putsWorks (zs B' 148 19 0) = some (v, B'') ∧ Inv2 A'' B'' ∧ (∀ o, 148 ≤ o → A'' o = A o) ∧ ∀ o, o < 148 → B'' o = B o := by
  obtain ⟨h1, h2, h3, h4, h5⟩ := h0
  obtain ⟨hk12, w1, w2, w3, w4⟩ := hw
  have m156 : (zs B' 148 19 0) 156 = B' 156 := by rw [zs_df (by decide)]
  obtain ⟨B2, e1, e2, e3, e4, e5, e5a, e6, e7⟩ := puts_works (M := zs B' 148 19 0) (k := k') (by rw [zs_sm, if_neg (by decide)]; exact w2) hk12
  rw [m156] at e6
  have rowO : ∀ j, j ≠ 52 → j ≠ 6 → ¬ (90 ≤ j ∧ j < 162) → B2 149 j = B 149 j := fun j q1 q2 q3 => by rw [e7 j q1 q2 q3, zs_df (by decide), hB.1 149 (by decide) (by omega)]
  have is1 : wrkIs (zs A' 0 5 0) 134 (B2 149) k' := by
    refine ⟨by rw [zs_df (by decide), e5]; exact w1, fun i hi => ?_⟩
    rw [show 91 + 6 * i = 90 + (6 * i + 1) by omega, show 92 + 6 * i = 90 + (6 * i + 2) by omega, show 93 + 6 * i = 90 + (6 * i + 3) by omega, show 94 + 6 * i = 90 + (6 * i + 4) by omega, show 95 + 6 * i = 90 + (6 * i + 5) by omega, e6 _ (by omega), e6 _ (by omega), e6 _ (by omega), e6 _ (by omega), e6 _ (by omega), e6 _ (by omega), zs_df (by decide), zs_df (by decide), zs_df (by decide), zs_df (by decide), zs_df (by decide), zs_df (by decide)]
    exact ⟨w3 0 i (by decide) hi, w3 1 i (by decide) hi, w3 2 i (by decide) hi, w3 3 i (by decide) hi, w3 4 i (by decide) hi, w3 5 i (by decide) hi⟩
  obtain ⟨A2, f1, f2, f3⟩ := cp_wrk (t := 21) (a := 134) (by omega) hk12 is1
  have gA : ∀ o, o ≠ 0 → o ≠ 2 → ¬ (21 ≤ o ∧ o ≤ 27) → ¬ (119 ≤ o ∧ o ≤ 146) → (zs A2 2 8 0) o = A o := fun o q1 q2 q3 q4 => by rw [zs_df q2, f3 o (by omega), zs_df q1]; exact hA.1 o q4
  have g0 : ∀ j, (zs A2 2 8 0) 0 j = if j = 5 then 0 else A 0 j := fun j => by rw [zs_df (by decide), f3 0 (by omega), zs_sm, hA.1 0 (by omega)]
  have g2 : ∀ j, (zs A2 2 8 0) 2 j = if j = 8 then 0 else A 2 j := fun j => by rw [zs_sm, f3 2 (by omega), zs_df (by decide), hA.1 2 (by omega)]
  have g119 : (zs A2 2 8 0) 119 = A' 119 := by rw [zs_df (by decide), f3 119 (by omega), zs_df (by decide)]
  have f2' : wrkIs (zs A2 2 8 0) 21 (B2 149) k' := wrkIs_of f2 (by rw [zs_df (by decide)]) (fun o q1 q2 => by rw [zs_df (by omega)])
  have hd : ((f11_forgetPasts A').bind fun M12 => (f88_copy 21 134 M12).bind fun M13 => zlet (zs M13 2 8 (0 : Int32)) fun (M14 : ZI) => some ((M14 21 6), M14)) = some ((zs A2 2 8 0) 21 6, zs A2 2 8 0) := by
    unfold f11_forgetPasts
    rw [zlet_e, Option.bind_some, f1, Option.bind_some, zlet_e]
  rw [hd]
  generalize zs A2 2 8 0 = A3 at *
  have gB : ∀ o, o ≠ 149 → o ≠ 148 → ¬ (153 ≤ o ∧ o ≤ 157) → B2 o = B o := fun o q1 q2 q3 => by rw [e2 o q1 q2, zs_df q2, hB.1 o q2 q3]
  have hn10 := h2.1.1
  obtain ⟨fp1, fp2⟩ := ppl_same h1.1 h2.1 (fun o ho => gA o (by omega) (by omega) (by omega) (by omega)) (fun j hj => rowO j (by omega) (by omega) (by omega))
  have okw : wrkOk (B2 149) n k' := by
    refine ⟨hk12, e5, fun i hi => ?_⟩
    obtain ⟨x1, x2, x3, x4, x5, x6⟩ := w4 i hi
    rw [show 91 + 6 * i = 90 + (6 * i + 1) by omega, show 92 + 6 * i = 90 + (6 * i + 2) by omega, show 93 + 6 * i = 90 + (6 * i + 3) by omega, show 94 + 6 * i = 90 + (6 * i + 4) by omega, show 95 + 6 * i = 90 + (6 * i + 5) by omega, e6 _ (by omega), e6 _ (by omega), e6 _ (by omega), e6 _ (by omega), e6 _ (by omega), e6 _ (by omega)]
    refine ⟨x1, x2, x3, x4, x5, ?_⟩
    rcases x6 with x6 | ⟨j, j1, j2, j3⟩
    · exact Or.inl x6
    · exact Or.inr ⟨j, j1, j2, by rw [e6 _ (by omega)]; exact j3⟩
  obtain ⟨-, i2, i3, i4, i5⟩ := h1
  obtain ⟨-, o2, o3, o4, o5, o6⟩ := h2
  have hm3 : momIs A3 2 (B2 149) n := by
    obtain ⟨⟨q1, q2, q3, q4, q5, q6, q7⟩, q8⟩ := h3
    refine ⟨?_, fun p hp => ?_⟩
    · rw [g2, g2, g2, g2, g2, g2, g2, if_neg (by decide), if_neg (by decide), if_neg (by decide), if_neg (by decide), if_pos rfl, if_neg (by decide), if_neg (by decide), rowO 1 (by decide) (by decide) (by omega), rowO 0 (by decide) (by decide) (by omega), rowO 2 (by decide) (by decide) (by omega), rowO 3 (by decide) (by decide) (by omega), rowO 4 (by decide) (by decide) (by omega), rowO 5 (by decide) (by decide) (by omega), e5a]
      exact ⟨q1, q2, q3, q4, rfl, q6, q7⟩
    · rw [gA (2 + 1) (by decide) (by decide) (by omega) (by omega), gA (2 + 2) (by decide) (by decide) (by omega) (by omega), gA (2 + 3) (by decide) (by decide) (by omega) (by omega), gA (2 + 4) (by decide) (by decide) (by omega) (by omega), rowO (17 + p) (by omega) (by omega) (by omega), rowO (27 + p) (by omega) (by omega) (by omega), rowO (37 + p) (by omega) (by omega) (by omega), rowO (7 + p) (by omega) (by omega) (by omega)]
      exact q8 p hp
  have hm4 : momOk (B2 149) n 999 := by
    obtain ⟨q1, ⟨y, q2, q3, q4⟩, q5, q6, q7⟩ := h4
    refine ⟨by rw [rowO 1 (by decide) (by decide) (by omega)]; exact q1, ⟨y, q2, by rw [rowO 0 (by decide) (by decide) (by omega)]; exact q3, fun p hp => by rw [rowO (27 + p) (by omega) (by omega) (by omega)]; exact q4 p hp⟩, by rw [rowO 5 (by decide) (by decide) (by omega)]; exact q5, ⟨0, by decide, e5a⟩, fun p hp => ?_⟩
    rw [rowO (17 + p) (by omega) (by omega) (by omega), rowO (7 + p) (by omega) (by omega) (by omega)]
    exact q7 p hp
  refine ⟨A3, B2, _, rfl, by rw [f2'.1, e5]; exact e1, Inv2_new ⟨fp1, lawIs_L (rowO 58 (by decide) (by decide) (by omega)) (fun j q1 => rowO j (by omega) (by omega) (by omega)) (lawIs_of i2 (fun o ho => gA o (by omega) (by omega) (by omega) (by omega))), f2', ruleIs_C (rowO 53 (by decide) (by decide) (by omega)) (rowO 54 (by decide) (by decide) (by omega)) (fun j q1 q2 => rowO j (by omega) (by omega) (by omega)) o4 (ruleIs_of i4 (fun o q1 q2 => gA o (by omega) (by omega) (by omega) (by omega))), bidIs_D (rowO 55 (by decide) (by decide) (by omega)) (fun j q1 q2 => rowO j (by omega) (by omega) (by omega)) o5 (bidIs_of i5 (fun o q1 q2 => gA o (by omega) (by omega) (by omega) (by omega)))⟩ ⟨fp2, lawOk_L (rowO 58 (by decide) (by decide) (by omega)) (fun j q1 => rowO j (by omega) (by omega) (by omega)) o2, okw, ruleOk_C (rowO 53 (by decide) (by decide) (by omega)) (rowO 54 (by decide) (by decide) (by omega)) (fun j q1 q2 => rowO j (by omega) (by omega) (by omega)) o4, o5, by rw [rowO 55 (by decide) (by decide) (by omega)]; exact o6⟩ hm3 hm4 h5 (forget_past h6 (by rw [g0, if_neg (by decide)]) (by rw [g0, if_pos rfl]) e4) h7 (fun o ho => gA o (by omega) (by omega) (by omega) (by omega)) (by rw [g0, if_neg (by decide)]) (gB 150 (by decide) (by decide) (by omega)) ?_ (fun j q1 q2 => rowO j (by omega) (by omega) (by omega)) (by rw [g119]; exact hA.2) ?_ ?_ ?_, fun o ho => gA o (by omega) (by omega) (by omega) (by omega), fun o ho => gB o (by omega) (by omega) (by omega)⟩
  · rw [e3 5 (by decide), zs_sm, if_neg (by decide)]; exact hB.2.2.2.2
  · rw [e3 19 (by decide), zs_sm, if_pos rfl]
  · rw [g119, e3 26 (by decide), zs_sm, if_neg (by decide), a10, hB.2.1]
  · rw [g119, e3 28 (by decide), zs_sm, if_neg (by decide), a11, hB.2.2.1]
