-- ===== who is GIVEN: to the end, in step =====
theorem bkIs_row {A A' : ZI} {w w' : Nat → Int32} (h : bkIs A w) (hA : (∀ o, 8 ≤ o → o ≤ 11 → A' o = A o) ∧ A' 2 10 = A 2 10 ∧ A' 2 5 = A 2 5) (hw : w' 0 = w 0 ∧ w' 5 = w 5 ∧ ∀ j, 578 ≤ j → j < 1178 → w' j = w j) : bkIs A' w' := by
  obtain ⟨h1, h2, h3, l, hl, h4⟩ := h
  refine ⟨fun i hi => ?_, by rw [hA.2.1, hw.2.1]; exact h2, by rw [hA.2.2, hw.1]; exact h3, l, hl, by rw [hw.2.1]; exact h4⟩
  rw [hA.1 _ (by omega) (by omega), hA.1 _ (by omega) (by omega), hA.1 _ (by omega) (by omega), hA.1 _ (by omega) (by omega), hw.2.2 _ (by omega) (by omega), hw.2.2 _ (by omega) (by omega), hw.2.2 _ (by omega) (by omega), hw.2.2 _ (by omega) (by omega)]
  exact h1 i hi
/-- what holds between the class's moment at a and the row when all is done but growing older; x is who had it -/
def preIs (A : ZI) (a : Nat) (v : Nat → Int32) (n : Nat) (x : Int32) : Prop := (A a 4 = v 1 ∧ A a 5 = v 0 ∧ A a 6 = v 2 ∧ A a 7 = v 3 ∧ A a 8 = v 6 ∧ A a 9 = v 4 ∧ A a 10 = v 5) ∧ ∀ p, p < n → A (a + 1) p = v (17 + p) ∧ A (a + 4) p = v (7 + p) ∧ (if znn p = x then v (27 + p) = A (a + 2) p + 1 ∧ v (37 + p) = -1 else v (27 + p) = A (a + 2) p ∧ v (37 + p) = A (a + 3) p)
def preOk (v : Nat → Int32) (n Y : Nat) : Prop := (∃ k, k ≤ 24 ∧ v 1 = znn k) ∧ (∃ y, y ≤ Y ∧ v 0 = znn y ∧ ∀ p, p < n → ∃ h, h ≤ y + 1 ∧ v (27 + p) = znn h) ∧ (∃ b, b ≤ 150 ∧ v 5 = znn b) ∧ (∃ d, d < 4096 ∧ v 6 = znn d) ∧ ∀ p, p < n → (∃ a, a ≤ 99 ∧ v (17 + p) = znn a) ∧ ∃ s, s < 1024 ∧ v (7 + p) = znn s ∧ s.testBit p = false
theorem zmin_range {x : Int32} {k m : Nat} (hx : x = znn k) (hk : k < 1000000) (hm : m < 1000000) : ∃ e, e ≤ m ∧ zmin (znn m) x = znn e := by
  subst hx
  unfold zmin
  split
  · rename_i h
    rw [zn_lt (by omega) (by omega)] at h
    exact ⟨k, by omega, rfl⟩
  · exact ⟨m, Nat.le_refl _, rfl⟩
/-- what a line of THE BOOK and the WORKS' leave -/
theorem give_eq {A B : ZI} {w : Nat → Int32} {a n k c b Y p : Nat} {r : Int32} (hr : (a = 2 ∧ r = 1 ∧ B 148 30 = 1 ∧ bookIs A 7 w) ∨ (a = 114 ∧ r = 0 ∧ B 148 30 = 0)) (hw : B 149 = w) (hp : p < n) (hf : fixIs A 1 w n k c b) (hok : fixOk w n k c b) (hm : momIs A a w n) (hmo : momOk w n Y) :
    ∃ A' B', f38_giveTo 1 a (znn p) r A = some A' ∧ f218_gets (znn p) B = some B' ∧ fixIs A' 1 (B' 149) n k c b ∧ preIs A' a (B' 149) n (znn p) ∧ preOk (B' 149) n Y ∧ (∀ o, o ≠ 16 → o ≠ 41 → o ≠ a → (r = 1 → ¬ (8 ≤ o ∧ o ≤ 11)) → A' o = A o) ∧ (∀ o, o ≠ 149 → o ≠ 159 → o ≠ 160 → B' o = B o) ∧ rowF w (B' 149) ∧ (r = 0 → ∀ j, 48 ≤ j → B' 149 j = w j) ∧ (r = 1 → bookIs A' 7 (B' 149)) := by
  have ha : a = 2 ∨ a = 114 := hr.elim (fun h => Or.inl h.1) (fun h => Or.inr h.1)
  have hn10 := hok.1.1
  have hwk := hok.2.2.1
  obtain ⟨e, he, h1⟩ := hmo.1
  obtain ⟨d, hd, h6⟩ := hmo.2.2.2.1
  obtain ⟨x, hx, -⟩ := plan_ref (M := B) (p := p) hw hwk hn10 (show 24 - e ≤ 24 by omega) hd h6
  obtain ⟨x1, x2, x3⟩ := pBest_4096 hwk.1 hx
  have hu : wSum w 1 x k ≤ 24 := by omega
  obtain ⟨A1, eA, gA1, gA2, gA3⟩ := give_cls (r := r) ha hp hf hok hm hmo h1 he h6 hd hx
  obtain ⟨B1, eB, gB1, gB2⟩ := give_ref hw hp hok hmo h1 he h6 hd hx
  have hmoG := momOk_G (k := k) hmo hd x2
  have hokG : fixOk (rowG w k d x) n k c b := fixOk_row rowG_F hok
  obtain ⟨wv, hwv, ewv⟩ := sAsk_range (w := rowG w k d x) (W' := 21) (p := p) (u := wSum w 1 x k) hu (Or.inr rfl)
  generalize hw1 : rowG w k d x = w1 at *
  generalize sAsk w1 21 p (wSum w 1 x k) = vw at *
  generalize sAsk w1 22 p (wSum w 1 x k) = vn at *
  subst ewv
  have hF1 : rowF w w1 := by rw [← hw1]; exact rowG_F
  have hlo : ∀ j, j ≠ 3 → j ≠ 6 → w1 j = w j := fun j a b => by rw [← hw1]; exact rowG_lo a b
  have z27 : (27 : Int32) + znn p = znn (27 + p) := zn_add 27 p
  have z37 : (37 : Int32) + znn p = znn (37 + p) := zn_add 37 p
  have hz27 : zin (znn (27 + p)) 2064 = true := (zn_zin (by omega)).mpr (by omega)
  have hz37 : zin (znn (37 + p)) 2064 = true := (zn_zin (by omega)).mpr (by omega)
  have y27 : zi (znn (27 + p)) = 27 + p := zn_zi (by omega)
  have y37 : zi (znn (37 + p)) = 37 + p := zn_zi (by omega)
  obtain ⟨e1, he1, ee1⟩ := hmoG.1
  obtain ⟨ew, hew, eew⟩ := zmin_range (x := w1 1 + znn wv) (k := e1 + wv) (m := 24) (by rw [ee1, zn_add]) (by omega) (by decide)
  obtain ⟨⟨m1, m2, m3, m4, m5, m6, m7⟩, m8⟩ := gA2
  obtain ⟨-, ⟨y, hy, hy0, hyh⟩, hb5, hd6, hag⟩ := hmoG
  rw [eA, eB]
  unfold f23_wearBy
  rw [z27, z37]
  simp only [zlet, Option.bind_some, hz27, hz37, y27, y37, ↓reduceIte, les_eq]
  rcases hr with ⟨rfl, rfl, ht, hbk⟩ | ⟨rfl, rfl, ht⟩
  · -- in truth
    rw [if_neg (by decide)]
    unfold f44_draw
    simp only [zlet]
    rw [if_pos (by decide), if_neg (by decide)]
    simp only [Option.bind_some]
    have eD : (zs A1 2 4 (zmin 24 (A1 2 4 + znn wv))) 2 9 = w1 4 := by rw [zs_ap, if_pos rfl, upd_ap, if_neg (by decide)]; exact m6
    rw [eD]
    generalize hA3 : zs (zs A1 2 4 (zmin 24 (A1 2 4 + znn wv))) 2 9 (1664525 * w1 4 + 1013904223) = A3
    have hA39 : A3 2 9 = 1664525 * w1 4 + 1013904223 := by rw [← hA3, zs_ap, if_pos rfl, upd_ap, if_pos rfl]
    rw [hA39]
    generalize hDr : (1664525 * w1 4 + 1013904223 : Int32) = dr at *
    have hA3o : ∀ o, o ≠ 2 → A3 o = A1 o := fun o ho => by rw [← hA3, zs_ap, if_neg ho, zs_ap, if_neg ho]
    have hA3j : ∀ j, j ≠ 4 → j ≠ 9 → A3 2 j = A1 2 j := fun j h1 h2 => by rw [← hA3, zs_ap, if_pos rfl, upd_ap, if_neg h2, zs_ap, if_pos rfl, upd_ap, if_neg h1]
    have hA34 : A3 2 4 = zmin 24 (w1 1 + znn wv) := by rw [← hA3, zs_ap, if_pos rfl, upd_ap, if_neg (by decide), zs_ap, if_pos rfl, upd_ap, if_pos rfl, m1]
    obtain ⟨v14, hv14, hv01⟩ : ∃ v14 : Int32, ((if zrem (zushr dr 8) 1000 < vn then some (1 : Int32) else some 0) : Option Int32) = some v14 ∧ ((zrem (zushr dr 8) 1000 < vn ∧ v14 = 1) ∨ (¬ zrem (zushr dr 8) 1000 < vn ∧ v14 = 0)) := by
      by_cases hc : zrem (zushr dr 8) 1000 < vn
      · exact ⟨1, by rw [if_pos hc], Or.inl ⟨hc, rfl⟩⟩
      · exact ⟨0, by rw [if_neg hc], Or.inr ⟨hc, rfl⟩⟩
    rw [hv14]
    have hv15 : ((if v14 = 0 then some (0 : Int32) else some 1) : Option Int32) = some v14 := by
      rcases hv01 with ⟨-, rfl⟩ | ⟨-, rfl⟩ <;> rfl
    simp only [Option.bind_some]
    rw [hv15]
    simp only [Option.bind_some]
    generalize hA4 : zs A3 2 6 (A3 2 6 + v14) = A4
    have hA4o : ∀ o, o ≠ 2 → A4 o = A1 o := fun o ho => by rw [← hA4, zs_ap, if_neg ho]; exact hA3o o ho
    have hA4j : ∀ j, j ≠ 4 → j ≠ 9 → j ≠ 6 → A4 2 j = A1 2 j := fun j h1 h2 h3 => by rw [← hA4, zs_ap, if_pos rfl, upd_ap, if_neg h3]; exact hA3j j h1 h2
    have hA44 : A4 2 4 = zmin 24 (w1 1 + znn wv) := by rw [← hA4, zs_ap, if_pos rfl, upd_ap, if_neg (by decide)]; exact hA34
    have hA49 : A4 2 9 = dr := by rw [← hA4, zs_ap, if_pos rfl, upd_ap, if_neg (by decide)]; exact hA39
    have hA46' : A4 2 6 = w1 2 + v14 := by rw [← hA4, zs_ap, if_pos rfl, upd_ap, if_pos rfl, hA3j 6 (by decide) (by decide), m3]
    have hbk4 : bkIs A4 w1 := by
      refine ⟨fun i hi => ?_, by rw [hA4j 10 (by decide) (by decide) (by decide)]; exact m7, by rw [hA4j 5 (by decide) (by decide) (by decide)]; exact m2, hb5⟩
      have g : ∀ o, 8 ≤ o → o ≤ 11 → A4 o = A o := fun o h1 h2 => (hA4o o (by omega)).trans (gA3 o (by omega) (by omega) (by omega))
      rw [g _ (by omega) (by omega), g _ (by omega) (by omega), g _ (by omega) (by omega), g _ (by omega) (by omega), hlo _ (by omega) (by omega), hlo _ (by omega) (by omega), hlo _ (by omega) (by omega), hlo _ (by omega) (by omega)]
      exact hbk i hi
    have hwi4 : wrkIs A4 21 w1 k := by
      have := gA1.2.2.1
      unfold wrkIs at this ⊢
      simp only [Nat.reduceAdd] at this ⊢
      rw [hA4o 21 (by decide), hA4o 22 (by decide), hA4o 23 (by decide), hA4o 24 (by decide), hA4o 25 (by decide), hA4o 26 (by decide), hA4o 27 (by decide)]
      exact this
    have hwk1 := hokG.2.2.1
    unfold f45_enter
    rw [show (1 : Nat) + 20 = 21 from rfl, show (1 : Nat) + 22 = 23 from rfl, show (1 : Nat) + 6 = 7 from rfl, show f42_sum 21 (znn x) 23 A4 = some (znn (wSum w1 1 x k)) from sum_cls hwi4 hwk1 hn10 (f := 1) (by decide) x2, wSum_row hF1 hwk.1 (by decide)]
    simp only [Option.bind_some]
    have ht1 : B1 148 30 = 1 := by rw [gB2 148 (by decide) (by decide) (by decide)]; exact ht
    obtain ⟨A5, B5, c1, c2, c3, c4, c5, c6⟩ := note_eq (x := 0) (y := znn p) (z := znn (wSum w 1 x k)) gB1 ht1 hbk4
    rw [c1, c2]
    simp only [Option.bind_some]
    have hF5 : rowF w (B5 149) := fun j h1 h2 => (c4 j (by omega) h2).trans (hF1 j h1 h2)
    have hwi5 : wrkIs A5 21 (B5 149) k := by
      have e1 : ∀ o, 21 ≤ o → o ≤ 27 → A5 o = A4 o := fun o h1 h2 => c6.1 o (by omega) (by omega) (by omega) (by omega) (by omega)
      have e2 : rowF w1 (B5 149) := fun j h1 h2 => c4 j (by omega) h2
      obtain ⟨q1, q2⟩ := hwi4
      refine ⟨by rw [e1 _ (by omega) (by omega), e2 _ (by omega) (by omega)]; exact q1, fun i hi => ?_⟩
      have := hwk.1
      rw [e1 _ (by omega) (by omega), e1 _ (by omega) (by omega), e1 _ (by omega) (by omega), e1 _ (by omega) (by omega), e1 _ (by omega) (by omega), e1 _ (by omega) (by omega), e2 _ (by omega) (by omega), e2 _ (by omega) (by omega), e2 _ (by omega) (by omega), e2 _ (by omega) (by omega), e2 _ (by omega) (by omega), e2 _ (by omega) (by omega)]
      exact q2 i hi
    obtain ⟨A6, B6, d1, d2, d3, d4, d5, d6⟩ := works_note (s := x) rfl (by rw [c5 148 (by decide)]; exact ht1) c3 hwi5 (fixOk_row hF5 hok).2.2.1 x2
    rw [d1, d2]
    simp only [Option.bind_some]
    have hB46 : rowB w1 (B6 149) := rowB_trans c4 d4
    have hA46 : bkFr A4 A6 := bkFr_trans c6 d6
    have hB6o : ∀ o, o ≠ 149 → B6 o = B1 o := fun o ho => (d5 o ho).trans (c5 o ho)
    have e48 : (zs (zs (zs B6 149 (27 + p) (B6 149 (27 + p) + 1)) 149 (37 + p) (-1)) 149 1 (zmin 24 (w1 1 + znn wv))) 148 30 = 1 := by
      rw [zs_ap, if_neg (by decide), zs_ap, if_neg (by decide), zs_ap, if_neg (by decide), hB6o 148 (by decide)]; exact ht1
    have e491 : (zs (zs B6 149 (27 + p) (B6 149 (27 + p) + 1)) 149 (37 + p) (-1)) 149 1 = w1 1 := by
      rw [zs_ap, if_pos rfl, upd_ap, if_neg (by omega), zs_ap, if_pos rfl, upd_ap, if_neg (by omega)]
      exact hB46 1 (by decide) (by omega)
    rw [e491, if_neg (show ¬ (zs (zs (zs B6 149 (27 + p) (B6 149 (27 + p) + 1)) 149 (37 + p) (-1)) 149 1 (zmin 24 (w1 1 + znn wv))) 148 30 = 0 by rw [e48]; decide)]
    unfold f227_draw
    simp only [zlet]
    rw [if_neg (show ¬ (1000 : Int32) = 0 by decide)]
    simp only [Option.bind_some]
    generalize hB7 : zs (zs (zs B6 149 (27 + p) (B6 149 (27 + p) + 1)) 149 (37 + p) (-1)) 149 1 (zmin 24 (w1 1 + znn wv)) = B7
    have e74 : B7 149 4 = w1 4 := by
      rw [← hB7, zs_ap, if_pos rfl, upd_ap, if_neg (by decide), zs_ap, if_pos rfl, upd_ap, if_neg (by omega), zs_ap, if_pos rfl, upd_ap, if_neg (by omega)]
      exact hB46 4 (by decide) (by omega)
    rw [e74, hDr]
    have e749 : (zs B7 149 4 dr) 149 4 = dr := by rw [zs_ap, if_pos rfl, upd_ap, if_pos rfl]
    rw [e749]
    -- the row ahead of the last line
    have row7 : ∀ j, j ≠ 27 + p → j ≠ 37 + p → j ≠ 1 → j ≠ 4 → (zs B7 149 4 dr) 149 j = B6 149 j := fun j h1 h2 h3 h4 => by
      rw [zs_ap, if_pos rfl, upd_ap, if_neg h4, ← hB7, zs_ap, if_pos rfl, upd_ap, if_neg h3, zs_ap, if_pos rfl, upd_ap, if_neg h2, zs_ap, if_pos rfl, upd_ap, if_neg h1]
    have row27 : (zs B7 149 4 dr) 149 (27 + p) = w1 (27 + p) + 1 := by
      rw [zs_ap, if_pos rfl, upd_ap, if_neg (by omega), ← hB7, zs_ap, if_pos rfl, upd_ap, if_neg (by omega), zs_ap, if_pos rfl, upd_ap, if_neg (by omega), zs_ap, if_pos rfl, upd_ap, if_pos rfl, hB46 _ (by omega) (by omega)]
    have row37 : (zs B7 149 4 dr) 149 (37 + p) = -1 := by
      rw [zs_ap, if_pos rfl, upd_ap, if_neg (by omega), ← hB7, zs_ap, if_pos rfl, upd_ap, if_neg (by omega), zs_ap, if_pos rfl, upd_ap, if_pos rfl]
    have row1 : (zs B7 149 4 dr) 149 1 = zmin 24 (w1 1 + znn wv) := by
      rw [zs_ap, if_pos rfl, upd_ap, if_neg (by decide), ← hB7, zs_ap, if_pos rfl, upd_ap, if_pos rfl]
    have hB8o : ∀ o, o ≠ 149 → (zs B7 149 4 dr) o = B1 o := fun o ho => by
      rw [zs_ap, if_neg ho, ← hB7, zs_ap, if_neg ho, zs_ap, if_neg ho, zs_ap, if_neg ho]
      exact hB6o o ho
    generalize zs B7 149 4 dr = B8 at *
    -- whatever the last line is, this is what is left
    have fin : ∀ (A9 B9 : ZI), bkIs A9 (B9 149) → bkFr A6 A9 → (∀ o, o ≠ 149 → B9 o = B8 o) → (∀ j, j ≠ 2 → j ≠ 5 → ¬ (578 ≤ j ∧ j < 1178) → B9 149 j = B8 149 j) → B9 149 2 = w1 2 + v14 →
        fixIs A9 1 (B9 149) n k c b ∧ preIs A9 2 (B9 149) n (znn p) ∧ preOk (B9 149) n Y ∧ (∀ o, o ≠ 16 → o ≠ 41 → o ≠ 2 → (True → ¬ (8 ≤ o ∧ o ≤ 11)) → A9 o = A o) ∧ (∀ o, o ≠ 149 → o ≠ 159 → o ≠ 160 → B9 o = B o) ∧ rowF w (B9 149) ∧ ((1 : Int32) = 0 → ∀ j, 48 ≤ j → B9 149 j = w j) ∧ (True → bookIs A9 7 (B9 149)) := by
      intro A9 B9 g1 g2 g3 g4 g5
      have row : ∀ j, j ≠ 2 → j ≠ 5 → ¬ (578 ≤ j ∧ j < 1178) → j ≠ 27 + p → j ≠ 37 + p → j ≠ 1 → j ≠ 4 → B9 149 j = w1 j := fun j q1 q2 q3 q4 q5 q6 q7 => (g4 j q1 q2 q3).trans ((row7 j q4 q5 q6 q7).trans (hB46 j q2 q3))
      have hF9 : rowF w1 (B9 149) := fun j q1 q2 => row j (by omega) (by omega) q2 (by omega) (by omega) (by omega) (by omega)
      have hA9 : bkFr A4 A9 := bkFr_trans hA46 g2
      have hA9o : ∀ o, o ≠ 2 → ¬ (8 ≤ o ∧ o ≤ 11) → A9 o = A1 o := fun o q1 q2 => (hA9.1 o q1 (by omega) (by omega) (by omega) (by omega)).trans (hA4o o q1)
      have hA9j : ∀ j, j ≠ 10 → A9 2 j = A4 2 j := hA9.2
      refine ⟨fixIs_row hF9 hokG (fixIs_of gA1 (fun o ho => hA9o o (by omega) (by omega))), ⟨⟨?_, ?_, ?_, ?_, ?_, ?_, ?_⟩, fun q hq => ?_⟩, ⟨?_, ?_, ?_, ?_, fun q hq => ?_⟩, fun o q1 q2 q3 q4 => (hA9o o q3 (q4 trivial)).trans (gA3 o q1 q2 q3), fun o q1 q2 q3 => (g3 o q1).trans ((hB8o o q1).trans (gB2 o q1 q2 q3)), rowF_trans hF1 hF9, fun hc => absurd hc (by decide), fun _ => g1.1⟩
      · rw [hA9j 4 (by decide), hA44, g4 1 (by decide) (by decide) (by omega), row1]
      · rw [hA9j 5 (by decide), hA4j 5 (by decide) (by decide) (by decide), m2, row 0 (by decide) (by decide) (by omega) (by omega) (by omega) (by decide) (by decide)]
      · rw [hA9j 6 (by decide), hA46', g5]
      · rw [hA9j 7 (by decide), hA4j 7 (by decide) (by decide) (by decide), m4, row 3 (by decide) (by decide) (by omega) (by omega) (by omega) (by decide) (by decide)]
      · rw [hA9j 8 (by decide), hA4j 8 (by decide) (by decide) (by decide), m5, row 6 (by decide) (by decide) (by omega) (by omega) (by omega) (by decide) (by decide)]
      · rw [hA9j 9 (by decide), hA49, g4 4 (by decide) (by decide) (by omega), e749]
      · exact g1.2.1
      · obtain ⟨r1, r2, r3, r4⟩ := m8 q hq
        simp only [Nat.reduceAdd] at r1 r2 r3 r4 ⊢
        rw [hA9o 3 (by decide) (by omega), hA9o 6 (by decide) (by omega), hA9o 4 (by decide) (by omega), hA9o 5 (by decide) (by omega), row (17 + q) (by omega) (by omega) (by omega) (by omega) (by omega) (by omega) (by omega), row (7 + q) (by omega) (by omega) (by omega) (by omega) (by omega) (by omega) (by omega)]
        refine ⟨r1, r4, ?_⟩
        by_cases hqp : q = p
        · subst hqp
          rw [if_pos rfl, g4 _ (by omega) (by omega) (by omega), g4 _ (by omega) (by omega) (by omega), row27, row37, r2]
          exact ⟨rfl, rfl⟩
        · rw [if_neg (by rw [zn_eq (by omega) (by omega)]; exact hqp), row (27 + q) (by omega) (by omega) (by omega) (by omega) (by omega) (by omega) (by omega), row (37 + q) (by omega) (by omega) (by omega) (by omega) (by omega) (by omega) (by omega), r2, r3]
          exact ⟨rfl, rfl⟩
      · exact ⟨ew, hew, by rw [g4 1 (by decide) (by decide) (by omega), row1]; exact eew⟩
      · refine ⟨y, hy, by rw [row 0 (by decide) (by decide) (by omega) (by omega) (by omega) (by decide) (by decide)]; exact hy0, fun q hq => ?_⟩
        obtain ⟨h, hh, eh⟩ := hyh q hq
        by_cases hqp : q = p
        · subst hqp
          exact ⟨h + 1, by omega, by rw [g4 _ (by omega) (by omega) (by omega), row27, eh, zadd1]⟩
        · exact ⟨h, by omega, by rw [row (27 + q) (by omega) (by omega) (by omega) (by omega) (by omega) (by omega) (by omega)]; exact eh⟩
      · exact g1.2.2.2
      · rw [row 6 (by decide) (by decide) (by omega) (by omega) (by omega) (by decide) (by decide)]
        exact hd6
      · rw [row (17 + q) (by omega) (by omega) (by omega) (by omega) (by omega) (by omega) (by omega), row (7 + q) (by omega) (by omega) (by omega) (by omega) (by omega) (by omega) (by omega)]
        exact hag q hq
    have hbk6 : bkIs A6 (B8 149) := bkIs_row d3 ⟨fun _ _ _ => rfl, rfl, rfl⟩ ⟨row7 0 (by omega) (by omega) (by decide) (by decide), row7 5 (by omega) (by omega) (by decide) (by decide), fun j q1 q2 => row7 j (by omega) (by omega) (by omega) (by omega)⟩
    have h82 : B8 149 2 = w1 2 := (row7 2 (by omega) (by omega) (by decide) (by decide)).trans (hB46 2 (by decide) (by omega))
    rcases hv01 with ⟨hc, rfl⟩ | ⟨hc, rfl⟩
    · rw [if_neg (by decide), if_pos hc]
      have hbk7 : bkIs A6 ((zs B8 149 2 (B8 149 2 + 1)) 149) := bkIs_row hbk6 ⟨fun _ _ _ => rfl, rfl, rfl⟩ ⟨by rw [zs_ap, if_pos rfl, upd_ap, if_neg (by decide)], by rw [zs_ap, if_pos rfl, upd_ap, if_neg (by decide)], fun j q1 q2 => by rw [zs_ap, if_pos rfl, upd_ap, if_neg (by omega)]⟩
      obtain ⟨A9, B9, f1, f2, f3, f4, f5, f6⟩ := note_eq (x := 4) (y := znn p) (z := 0) (B := zs B8 149 2 (B8 149 2 + 1)) rfl (by rw [zs_ap, if_neg (by decide), hB8o 148 (by decide)]; exact ht1) hbk7
      rw [f1, f2]
      simp only [Option.bind_some]
      refine ⟨A9, B9, rfl, rfl, fin A9 B9 f3 f6 (fun o ho => (f5 o ho).trans (by rw [zs_ap, if_neg ho])) (fun j q1 q2 q3 => (f4 j q2 q3).trans (by rw [zs_ap, if_pos rfl, upd_ap, if_neg q1])) ?_⟩
      rw [f4 2 (by decide) (by omega), zs_ap, if_pos rfl, upd_ap, if_pos rfl, h82]
    · rw [if_pos rfl, if_neg hc]
      refine ⟨A6, B8, rfl, rfl, fin A6 B8 hbk6 (bkFr_refl A6) (fun _ _ => rfl) (fun _ _ _ _ => rfl) ?_⟩
      rw [h82, Int32.add_zero]
  · -- in thought
    rw [if_pos rfl]
    have ht1 : B1 148 30 = 0 := by rw [gB2 148 (by decide) (by decide) (by decide)]; exact ht
    have hn : ∀ m : ZI, m 148 30 = 0 → ∀ a b c, f217_notes a b c m = some m := fun m hm a b c => by
      unfold f217_notes
      rw [if_pos hm]
    rw [hn B1 ht1]
    simp only [Option.bind_some]
    have hwk1 := hokG.2.2.1
    have hloop : f218_l69 (znn x) zfu 0 B1 = some B1 := by
      obtain ⟨m, h1, h2⟩ := zloop (fun fu (m : ZI) c => f218_l69 (znn x) fu c m) k (fun _ m => m = B1) (fun m => m = B1) (fun fu i m hi hm => by
        subst hm
        left
        refine ⟨m, rfl, ?_⟩
        (try dsimp only)
        have hk12 := hwk.1
        rw [f218_l69, gB1, hwk1.2.1, if_pos ((zn_lt (by omega) (by omega)).mpr hi), zbit x2 (by omega), zadd1, show f222_ofWork (znn i) 1 m = some (m 149 (90 + 1 + 6 * i)) from ofWork_eq (f := 1) (by omega) (by decide)]
        simp only [Option.bind_some, hn m ht1]
        split <;> rfl) (fun fu m hm => by
        subst hm
        refine ⟨m, rfl, ?_⟩
        (try dsimp only)
        have hk12 := hwk.1
        rw [f218_l69, gB1, hwk1.2.1, if_neg (by rw [zn_lt (by omega) (by omega)]; omega)]) zfu 0 B1 (by omega) (by have := hwk.1; rw [zfu_eq]; omega) rfl
      have h1 : f218_l69 (znn x) zfu 0 B1 = some m := h1
      rw [h1, h2]
    rw [hloop]
    simp only [Option.bind_some]
    have e491 : (zs (zs B1 149 (27 + p) (B1 149 (27 + p) + 1)) 149 (37 + p) (-1)) 149 1 = w1 1 := by
      rw [zs_ap, if_pos rfl, upd_ap, if_neg (by omega), zs_ap, if_pos rfl, upd_ap, if_neg (by omega), gB1]
    rw [e491]
    generalize hB7 : zs (zs (zs B1 149 (27 + p) (B1 149 (27 + p) + 1)) 149 (37 + p) (-1)) 149 1 (zmin 24 (w1 1 + znn wv)) = B7
    have hB7o : ∀ o, o ≠ 149 → B7 o = B1 o := fun o ho => by rw [← hB7, zs_ap, if_neg ho, zs_ap, if_neg ho, zs_ap, if_neg ho]
    rw [if_pos (by rw [hB7o 148 (by decide)]; exact ht1)]
    have row : ∀ j, j ≠ 27 + p → j ≠ 37 + p → j ≠ 1 → B7 149 j = w1 j := fun j h1 h2 h3 => by
      rw [← hB7, zs_ap, if_pos rfl, upd_ap, if_neg h3, zs_ap, if_pos rfl, upd_ap, if_neg h2, zs_ap, if_pos rfl, upd_ap, if_neg h1, gB1]
    have row27 : B7 149 (27 + p) = w1 (27 + p) + 1 := by
      rw [← hB7, zs_ap, if_pos rfl, upd_ap, if_neg (by omega), zs_ap, if_pos rfl, upd_ap, if_neg (by omega), zs_ap, if_pos rfl, upd_ap, if_pos rfl, gB1]
    have row37 : B7 149 (37 + p) = -1 := by
      rw [← hB7, zs_ap, if_pos rfl, upd_ap, if_neg (by omega), zs_ap, if_pos rfl, upd_ap, if_pos rfl]
    have row1 : B7 149 1 = zmin 24 (w1 1 + znn wv) := by
      rw [← hB7, zs_ap, if_pos rfl, upd_ap, if_pos rfl]
    have hF7 : rowF w1 (B7 149) := fun j q1 q2 => row j (by omega) (by omega) (by omega)
    generalize hA2 : zs A1 114 4 (zmin 24 (A1 114 4 + znn wv)) = A2
    have hA2o : ∀ o, o ≠ 114 → A2 o = A1 o := fun o ho => by rw [← hA2, zs_ap, if_neg ho]
    have hA2j : ∀ j, j ≠ 4 → A2 114 j = A1 114 j := fun j hj => by rw [← hA2, zs_ap, if_pos rfl, upd_ap, if_neg hj]
    refine ⟨A2, B7, rfl, rfl, fixIs_row hF7 hokG (fixIs_of gA1 (fun o ho => hA2o o (by omega))), ⟨⟨?_, ?_, ?_, ?_, ?_, ?_, ?_⟩, fun q hq => ?_⟩, ⟨?_, ?_, ?_, ?_, fun q hq => ?_⟩, fun o q1 q2 q3 _ => (hA2o o q3).trans (gA3 o q1 q2 q3), fun o q1 q2 q3 => (hB7o o q1).trans (gB2 o q1 q2 q3), rowF_trans hF1 hF7, fun _ j hj => (row j (by omega) (by omega) (by omega)).trans (hlo j (by omega) (by omega)), fun hc => absurd hc (by decide)⟩
    · rw [← hA2, zs_ap, if_pos rfl, upd_ap, if_pos rfl, m1, row1]
    · rw [hA2j 5 (by decide), m2, row 0 (by omega) (by omega) (by decide)]
    · rw [hA2j 6 (by decide), m3, row 2 (by omega) (by omega) (by decide)]
    · rw [hA2j 7 (by decide), m4, row 3 (by omega) (by omega) (by decide)]
    · rw [hA2j 8 (by decide), m5, row 6 (by omega) (by omega) (by decide)]
    · rw [hA2j 9 (by decide), m6, row 4 (by omega) (by omega) (by decide)]
    · rw [hA2j 10 (by decide), m7, row 5 (by omega) (by omega) (by decide)]
    · obtain ⟨r1, r2, r3, r4⟩ := m8 q hq
      rw [hA2o _ (by decide), hA2o _ (by decide), hA2o _ (by decide), hA2o _ (by decide), row (17 + q) (by omega) (by omega) (by omega), row (7 + q) (by omega) (by omega) (by omega)]
      refine ⟨r1, r4, ?_⟩
      by_cases hqp : q = p
      · subst hqp
        rw [if_pos rfl, row27, row37, r2]
        exact ⟨rfl, rfl⟩
      · rw [if_neg (by rw [zn_eq (by omega) (by omega)]; exact hqp), row (27 + q) (by omega) (by omega) (by omega), row (37 + q) (by omega) (by omega) (by omega), r2, r3]
        exact ⟨rfl, rfl⟩
    · exact ⟨ew, hew, by rw [row1]; exact eew⟩
    · refine ⟨y, hy, by rw [row 0 (by omega) (by omega) (by decide)]; exact hy0, fun q hq => ?_⟩
      obtain ⟨h, hh, eh⟩ := hyh q hq
      by_cases hqp : q = p
      · subst hqp
        exact ⟨h + 1, by omega, by rw [row27, eh, zadd1]⟩
      · exact ⟨h, by omega, by rw [row (27 + q) (by omega) (by omega) (by omega)]; exact eh⟩
    · rw [row 5 (by omega) (by omega) (by decide)]; exact hb5
    · rw [row 6 (by omega) (by omega) (by decide)]; exact hd6
    · rw [row (17 + q) (by omega) (by omega) (by omega), row (7 + q) (by omega) (by omega) (by omega)]
      exact hag q hq
