theorem ppl_same {A A' : ZI} {w w' : Nat → Int32} {n : Nat} (f1 : pplIs A 1 w n) (o1 : pplOk w n) (g : ∀ o, o = 1 ∨ (37 ≤ o ∧ o ≤ 39) → A' o = A o) (e : ∀ j, (48 ≤ j ∧ j ≤ 51) ∨ (56 ≤ j ∧ j ≤ 57) ∨ (60 ≤ j ∧ j < 90) → w' j = w j) : pplIs A' 1 w' n ∧ pplOk w' n := by
  have hn10 := o1.1
  constructor
  · obtain ⟨p1, p2⟩ := pplIs_of f1 (A' := A') (fun o ho => g o (by omega))
    refine ⟨by rw [e 48 (by decide), e 49 (by decide), e 50 (by decide), e 56 (by decide), e 57 (by decide)]; exact p1, fun p hp => ?_⟩
    rw [e _ (by omega), e _ (by omega), e _ (by omega)]
    exact p2 p hp
  · obtain ⟨p1, p2, p3, p4, p5, p6, p7, p8⟩ := o1
    refine ⟨p1, by rw [e 48 (by decide)]; exact p2, by rw [e 49 (by decide)]; exact p3, by rw [e 50 (by decide)]; exact p4, by rw [e 56 (by decide)]; exact p5, by rw [e 57 (by decide)]; exact p6, by rw [e 51 (by decide), voiceN_P n (fun p hp => e _ (by omega))]; exact p7, fun p hp => ?_⟩
    rw [e _ (by omega), e _ (by omega), e _ (by omega)]
    exact p8 p hp
theorem Inv2_new {A A' B B' : ZI} {n k c b : Nat} (hf : fixIs A' 1 (B' 149) n k c b) (hok : fixOk (B' 149) n k c b) (h3 : momIs A' 2 (B' 149) n) (h4 : momOk (B' 149) n 999) (h5 : bookIs A 7 (B 149)) (h6 : pastIs A' B' n) (h7 : imgIs A B) (gA : ∀ o, (7 ≤ o ∧ o ≤ 11) ∨ (42 ≤ o ∧ o < 84) → A' o = A o) (gA0 : A' 0 2 = A 0 2) (gB : B' 150 = B 150) (gB5 : B' 148 5 = B 148 5) (grow : ∀ j, 578 ≤ j → j < 1178 → B' 149 j = B 149 j) (t1 : A' 119 1 = 0) (t2 : B' 148 19 = 0) (t3 : A' 119 10 = B' 148 26) (t4 : A' 119 11 = B' 148 28) : Inv2 A' B' :=
  ⟨n, k, c, b, ⟨hf, hok, h3, h4, bookIs_row (bookIs_of h5 (fun o q1 q2 => gA o (by omega))) grow⟩, h6, imgIs_of h7 ⟨gA0, fun o q1 q2 => gA o (by omega)⟩ ⟨gB5, gB⟩, ⟨0, by decide, t1, t2, fun i hi => by omega, t3, t4⟩⟩
/-- THE LAW is told -/
theorem end_law {A A' B B' : ZI} {n k c b c' L : Nat} (h0 : Inv5 A B n k c b) (h6 : pastIs A B n) (h7 : imgIs A B) (hA : KA A A') (hB : KB B B') (a10 : A' 119 10 = 0) (a11 : A' 119 11 = -1) (hc : LC A' B' c') (hc4 : c' ≤ 400) (hL : L ≤ 16) (l1 : A' 124 5 = znn L) (l2 : B' 148 15 = znn L) (hl : ∀ i, i < L → lineR A' B' c' i) :
    ∃ A'' B'', f81_copy 12 124 A' = some A'' ∧ A'' 12 5 = znn L ∧ f193_putsLaw (zs B' 148 19 0) = some (znn L, B'') ∧ Inv2 A'' B'' ∧ (∀ o, 148 ≤ o → A'' o = A o) ∧ ∀ o, o < 148 → B'' o = B o := by
  obtain ⟨h1, h2, h3, h4, h5⟩ := h0
  have m153 : (zs B' 148 19 0) 153 = B' 153 := by rw [zs_df (by decide)]
  have m154 : (zs B' 148 19 0) 154 = B' 154 := by rw [zs_df (by decide)]
  obtain ⟨B2, e1, e2, e3, e4, e5, e6⟩ := puts_law (M := zs B' 148 19 0) (L := L) (c := c') (by rw [zs_sm, if_neg (by decide)]; exact l2) (by rw [zs_sm, if_neg (by decide)]; exact hc.2.1) hL hc4
  rw [m153] at e4
  rw [m154] at e5
  have rowO : ∀ j, j ≠ 58 → j < 1178 → B2 149 j = B 149 j := fun j q1 q2 => by rw [e6 j q1 q2, zs_df (by decide), hB.1 149 (by decide) (by omega)]
  have code0 : ∀ j, j < c' → B2 149 (1244 + 2 * j) = B' 154 (2 * j) := fun j hj => e5 (2 * j) (by omega)
  have code1 : ∀ j, j < c' → B2 149 (1245 + 2 * j) = B' 154 (2 * j + 1) := fun j hj => by
    rw [show 1245 + 2 * j = 1244 + (2 * j + 1) by omega]
    exact e5 (2 * j + 1) (by omega)
  have run : ∀ F p q h P, q ≤ c' → h ≤ 64 → pushes B' p q h P → ∃ x, P x ∧ sRun F (B2 149) (q - p) p [] = some [x] := by
    intro F p q h P hq hh hp
    obtain ⟨hpq, hp⟩ := hp
    obtain ⟨x, hx, e⟩ := hp F [] (by simpa using hh)
    refine ⟨x, hx, ?_⟩
    rw [← e]
    exact sRun_cong _ _ _ (fun j j1 j2 => by rw [dft_0, dft_1]; exact ⟨code0 j (by omega), code1 j (by omega)⟩)
  have ok : lawOk (B2 149) c' := by
    refine ⟨hc4, L, hL, e3, fun i hi => ?_⟩
    obtain ⟨w1, w2, w3, w4, p, q, r, r1, r2, r3, r4, r5, r6, r7, r8⟩ := hl i hi
    obtain ⟨x1, x2, x3, x4⟩ := e4 i hi
    refine ⟨p, q, r, r1, r2, r3, by rw [x1]; exact r4, by rw [x2]; exact r5, by rw [x3]; exact r6, ?_, fun F => ?_, ?_⟩
    · rw [x4]
      rcases w1 with w | w | w
      · exact Or.inl w.2
      · exact Or.inr (Or.inl w.2)
      · exact Or.inr (Or.inr w.2)
    · obtain ⟨x, -, e⟩ := run F p q 3 anyV (by omega) (by decide) r7
      exact ⟨x, e⟩
    · rcases r8 with r8 | r8
      · exact Or.inl r8
      · exact Or.inr (fun F => run F q r 22 bitV (by omega) (by decide) r8)
  have is1 : lawIs A' 124 (B2 149) c' := by
    refine ⟨by rw [e3]; exact l1, hc.1, fun j hj => ?_, fun i hi => ?_⟩
    · rw [code0 j hj, code1 j hj]
      exact hc.2.2 j hj
    · rw [e3, zn_zi (by omega)] at hi
      obtain ⟨w1, w2, w3, w4, -⟩ := hl i hi
      obtain ⟨x1, x2, x3, x4⟩ := e4 i hi
      rw [x1, x2, x3, x4]
      exact ⟨w1, w2, w3, w4⟩
  obtain ⟨A2, f1, f2, f3⟩ := cp_law (t := 12) (a := 124) (by omega) ok is1
  have gA : ∀ o, ¬ (12 ≤ o ∧ o ≤ 20) → ¬ (119 ≤ o ∧ o ≤ 146) → A2 o = A o := fun o q1 q2 => (f3 o (by omega)).trans (hA.1 o q2)
  have g119 : A2 119 = A' 119 := f3 119 (by omega)
  have g148 : B2 148 = (zs B' 148 19 0) 148 := e2 148 (by decide)
  have gB : ∀ o, o ≠ 149 → o ≠ 148 → ¬ (153 ≤ o ∧ o ≤ 157) → B2 o = B o := fun o q1 q2 q3 => by rw [e2 o q1, zs_df q2, hB.1 o q2 q3]
  obtain ⟨fp1, fp2⟩ := ppl_same h1.1 h2.1 (fun o ho => gA o (by omega) (by omega)) (fun j hj => rowO j (by omega) (by omega))
  obtain ⟨-, i2, i3, i4, i5⟩ := h1
  obtain ⟨-, o2, o3, o4, o5, o6⟩ := h2
  have hk12 := o3.1
  have hn10 := fp2.1
  refine ⟨A2, B2, f1, by rw [f2.1]; exact e3, e1, Inv2_new ⟨fp1, f2, wrkIs_W (rowO 52 (by decide) (by decide)) (fun j q1 q2 => rowO j (by omega) (by omega)) hk12 (wrkIs_of i3 (by rw [gA 21 (by omega) (by omega)]) (fun o q1 q2 => gA o (by omega) (by omega))), ruleIs_C (rowO 53 (by decide) (by decide)) (rowO 54 (by decide) (by decide)) (fun j q1 q2 => rowO j (by omega) (by omega)) o4 (ruleIs_of i4 (fun o q1 q2 => gA o (by omega) (by omega))), bidIs_D (rowO 55 (by decide) (by decide)) (fun j q1 q2 => rowO j (by omega) (by omega)) o5 (bidIs_of i5 (fun o q1 q2 => gA o (by omega) (by omega)))⟩ ⟨fp2, ok, wrkOk_W (rowO 52 (by decide) (by decide)) (fun j q1 q2 => rowO j (by omega) (by omega)) (Nat.le_refl _) o3, ruleOk_C (rowO 53 (by decide) (by decide)) (rowO 54 (by decide) (by decide)) (fun j q1 q2 => rowO j (by omega) (by omega)) o4, o5, by rw [rowO 55 (by decide) (by decide)]; exact o6⟩ (momIs_row (momIs_of h3 (fun q q1 q2 => gA q (by omega) (by omega))) hn10 (fun j hj => rowO j (by omega) (by omega))) (momOk_row h4 hn10 (fun j hj => rowO j (by omega) (by omega))) h5 (pastIs_of h6 ⟨by rw [gA 0 (by omega) (by omega)], by rw [gA 0 (by omega) (by omega)], fun o q1 q2 => gA o (by omega) (by omega)⟩ ⟨?_, gB 151 (by decide) (by decide) (by omega)⟩) h7 (fun o ho => gA o (by omega) (by omega)) (by rw [gA 0 (by omega) (by omega)]) (gB 150 (by decide) (by decide) (by omega)) ?_ (fun j q1 q2 => rowO j (by omega) q2) (by rw [g119]; exact hA.2) ?_ ?_ ?_, fun o ho => gA o (by omega) (by omega), fun o ho => gB o (by omega) (by omega) (by omega)⟩
  · rw [g148, zs_sm, if_neg (by decide)]; exact hB.2.2.2.1
  · rw [g148, zs_sm, if_neg (by decide)]; exact hB.2.2.2.2
  · rw [g148, zs_sm, if_pos rfl]
  · rw [g119, g148, zs_sm, if_neg (by decide), a10, hB.2.1]
  · rw [g119, g148, zs_sm, if_neg (by decide), a11, hB.2.2.1]
/-- THE COUNCIL's rule is told -/
theorem end_council {A A' B B' : ZI} {n k c b c' : Nat} (h0 : Inv5 A B n k c b) (h6 : pastIs A B n) (h7 : imgIs A B) (hA : KA A A') (hB : KB B B') (a10 : A' 119 10 = 0) (a11 : A' 119 11 = -1) (hc : CC A' B' c') (hc4 : c' ≤ 400) (hp : c' = 0 ∨ pushC B' 0 c' 19) :
    ∃ A'' B'' v, f90_copy 29 142 A' = some A'' ∧ A'' 29 1 = v ∧ f196_putsCouncil (zs B' 148 19 0) = some (v, B'') ∧ Inv2 A'' B'' ∧ (∀ o, 148 ≤ o → A'' o = A o) ∧ ∀ o, o < 148 → B'' o = B o := by
  obtain ⟨h1, h2, h3, h4, h5⟩ := h0
  obtain ⟨p, c1, c2, c3, c4, c5, c6, c7⟩ := hc
  have m157 : (zs B' 148 19 0) 157 = B' 157 := by rw [zs_df (by decide)]
  obtain ⟨B2, e1, e2, e3, e4, e5, e6⟩ := puts_council (M := zs B' 148 19 0) (p := p) (c := c') (by rw [zs_sm, if_neg (by decide)]; exact c4) (by rw [zs_sm, if_neg (by decide)]; exact c2) hc4
  rw [m157] at e5
  have rowO : ∀ j, j ≠ 53 → j ≠ 54 → ¬ (162 ≤ j ∧ j < 562) → B2 149 j = B 149 j := fun j q1 q2 q3 => by rw [e6 j q1 q2 q3, zs_df (by decide), hB.1 149 (by decide) (by omega)]
  have ok : ruleOk (B2 149) := by
    refine ⟨c', hc4, e4, ?_, fun j hj => ⟨_, _, by rw [e5 j hj]; exact c7 j hj⟩, fun S hS => ?_⟩
    · rw [e3, c6, show (znn p = 0) = (znn p = znn 0) from rfl, zn_eq (by omega) (by decide)]
    · rcases hp with hp | hp
      · left
        rw [hp]
        rfl
      · right
        obtain ⟨hpq, hp⟩ := hp
        obtain ⟨x, hx, e⟩ := hp S [] hS (by decide)
        refine ⟨x, hx, ?_⟩
        rw [← e, Nat.sub_zero]
        exact cRun_cong _ _ _ (fun j j1 j2 => by rw [dftC_0]; exact e5 j (by omega))
  have is1 : ruleIs A' 142 (B2 149) := by
    refine ⟨by rw [e3]; exact c3, by rw [e4]; exact c1, fun j hj => ?_⟩
    rw [e4, zn_zi (by omega)] at hj
    rw [e5 j hj]
    exact c7 j hj
  obtain ⟨A2, f1, f2, f3⟩ := cp_rule (t := 29) (a := 142) (by omega) ok is1
  have gA : ∀ o, ¬ (29 ≤ o ∧ o ≤ 32) → ¬ (119 ≤ o ∧ o ≤ 146) → A2 o = A o := fun o q1 q2 => (f3 o (by omega)).trans (hA.1 o q2)
  have g119 : A2 119 = A' 119 := f3 119 (by omega)
  have g148 : B2 148 = (zs B' 148 19 0) 148 := e2 148 (by decide)
  have gB : ∀ o, o ≠ 149 → o ≠ 148 → ¬ (153 ≤ o ∧ o ≤ 157) → B2 o = B o := fun o q1 q2 q3 => by rw [e2 o q1, zs_df q2, hB.1 o q2 q3]
  obtain ⟨fp1, fp2⟩ := ppl_same h1.1 h2.1 (fun o ho => gA o (by omega) (by omega)) (fun j hj => rowO j (by omega) (by omega) (by omega))
  obtain ⟨-, i2, i3, i4, i5⟩ := h1
  obtain ⟨-, o2, o3, o4, o5, o6⟩ := h2
  have hk12 := o3.1
  have hn10 := fp2.1
  refine ⟨A2, B2, znn p, f1, by rw [f2.1]; exact e3, e1, Inv2_new ⟨fp1, lawIs_L (rowO 58 (by decide) (by decide) (by omega)) (fun j q1 => rowO j (by omega) (by omega) (by omega)) (lawIs_of i2 (fun o ho => gA o (by omega) (by omega))), wrkIs_W (rowO 52 (by decide) (by decide) (by omega)) (fun j q1 q2 => rowO j (by omega) (by omega) (by omega)) hk12 (wrkIs_of i3 (by rw [gA 21 (by omega) (by omega)]) (fun o q1 q2 => gA o (by omega) (by omega))), f2, bidIs_D (rowO 55 (by decide) (by decide) (by omega)) (fun j q1 q2 => rowO j (by omega) (by omega) (by omega)) o5 (bidIs_of i5 (fun o q1 q2 => gA o (by omega) (by omega)))⟩ ⟨fp2, lawOk_L (rowO 58 (by decide) (by decide) (by omega)) (fun j q1 => rowO j (by omega) (by omega) (by omega)) o2, wrkOk_W (rowO 52 (by decide) (by decide) (by omega)) (fun j q1 q2 => rowO j (by omega) (by omega) (by omega)) (Nat.le_refl _) o3, ok, o5, by rw [rowO 55 (by decide) (by decide) (by omega)]; exact o6⟩ (momIs_row (momIs_of h3 (fun q q1 q2 => gA q (by omega) (by omega))) hn10 (fun j hj => rowO j (by omega) (by omega) (by omega))) (momOk_row h4 hn10 (fun j hj => rowO j (by omega) (by omega) (by omega))) h5 (pastIs_of h6 ⟨by rw [gA 0 (by omega) (by omega)], by rw [gA 0 (by omega) (by omega)], fun o q1 q2 => gA o (by omega) (by omega)⟩ ⟨?_, gB 151 (by decide) (by decide) (by omega)⟩) h7 (fun o ho => gA o (by omega) (by omega)) (by rw [gA 0 (by omega) (by omega)]) (gB 150 (by decide) (by decide) (by omega)) ?_ (fun j q1 q2 => rowO j (by omega) (by omega) (by omega)) (by rw [g119]; exact hA.2) ?_ ?_ ?_, fun o ho => gA o (by omega) (by omega), fun o ho => gB o (by omega) (by omega) (by omega)⟩
  · rw [g148, zs_sm, if_neg (by decide)]; exact hB.2.2.2.1
  · rw [g148, zs_sm, if_neg (by decide)]; exact hB.2.2.2.2
  · rw [g148, zs_sm, if_pos rfl]
  · rw [g119, g148, zs_sm, if_neg (by decide), a10, hB.2.1]
  · rw [g119, g148, zs_sm, if_neg (by decide), a11, hB.2.2.1]
