-- ===== A YEAR, in step =====
theorem sSum_congr {w vo vo' : Nat → Int32} {n p : Nat} (h : ∀ v, v < n → vo v = vo' v) : ∀ m, m ≤ n → sSum w vo p m = sSum w vo' p m
  | 0, _ => rfl
  | m + 1, hm => by
    unfold sSum
    rw [sSum_congr h m (by omega), h m (by omega)]
theorem sNam_congr {vo vo' : Nat → Int32} {n p : Nat} (h : ∀ v, v < n → vo v = vo' v) : ∀ m, m ≤ n → sNam vo p m = sNam vo' p m
  | 0, _ => rfl
  | m + 1, hm => by
    unfold sNam
    rw [sNam_congr h m (by omega), h m (by omega)]
theorem sGiv_congr {w vo vo' : Nat → Int32} {n : Nat} (h : ∀ v, v < n → vo v = vo' v) : ∀ i, sGiv w vo n i = sGiv w vo' n i
  | 0 => rfl
  | i + 1 => by
    unfold sGiv
    rw [sGiv_congr h i, sSum_congr h n (Nat.le_refl _), sNam_congr h n (Nat.le_refl _)]
    have : ∀ q, sBef w vo n i q = sBef w vo' n i q := by
      intro q
      cases q with
      | none => rfl
      | some q => simp only [sBef, sSum_congr h n (Nat.le_refl _)]
    rw [this]
def gNow (w : Nat → Int32) (n : Nat) : Option Nat := sGiv w (fun v => w (80 + v)) n n
theorem gNow_vo {w : Nat → Int32} {n : Nat} (hn : n ≤ 10) : sGiv w (sVo w (-1) (-1)) n n = gNow w n :=
  sGiv_congr (fun v hv => by
    unfold sVo
    rw [if_neg (zn_ne_neg (by omega))]) n
/-- what both answer of a YEAR on the row w -/
def yAns (w : Nat → Int32) (n : Nat) (x v : Int32) : Prop := (¬ w 1 < w 50 ∧ x = -2 ∧ v = -1) ∨ (w 1 < w 50 ∧ ((x = -1 ∧ v = -1) ∨ ∃ p, p < n ∧ x = znn p ∧ v = znn p))
theorem pre_of {A : ZI} {a : Nat} {w : Nat → Int32} {n : Nat} {x : Int32} (h : momIs A a w n) (hx : x = -1 ∨ x = -2) (hn : n ≤ 10) : preIs A a w n x := by
  refine ⟨h.1, fun p hp => ?_⟩
  obtain ⟨q1, q2, q3, q4⟩ := h.2 p hp
  refine ⟨q1, q4, ?_⟩
  have hne : ¬ znn p = x := by
    rcases hx with rfl | rfl
    · exact zn_ne_neg (by omega)
    · intro hc
      have := congrArg Int32.toInt hc
      rw [zn_toInt (by omega)] at this
      have h2 : Int32.toInt (-2) = -2 := rfl
      omega
  rw [if_neg hne]
  exact ⟨q2.symm, q3.symm⟩
theorem preOk_of {w : Nat → Int32} {n Y : Nat} (h : momOk w n Y) : preOk w n Y := by
  obtain ⟨h1, ⟨y, h2, h3, h4⟩, h5⟩ := h
  exact ⟨h1, ⟨y, h2, h3, fun p hp => by
    obtain ⟨q, q1, q2⟩ := h4 p hp
    exact ⟨q, by omega, q2⟩⟩, h5⟩
/-- growing older: the end of a YEAR on both sides -/
theorem grow_eq {A B : ZI} {a n k c b Y : Nat} {x : Int32} (ha : a = 2 ∨ a = 114) (hf : fixIs A 1 (B 149) n k c b) (hok : fixOk (B 149) n k c b) (hp : preIs A a (B 149) n x) (hpo : preOk (B 149) n Y) :
    ∃ A' B', f47_growOlder a (znn n) x A = some A' ∧ (∃ B1, f204_l93 zfu 0 B = some B1 ∧ B' = zs B1 149 0 (B1 149 0 + 1)) ∧ fixIs A' 1 (B' 149) n k c b ∧ fixOk (B' 149) n k c b ∧ momIs A' a (B' 149) n ∧ momOk (B' 149) n (Y + 1) ∧ (∀ o, o ≠ a → o ≠ a + 1 → o ≠ a + 2 → o ≠ a + 3 → A' o = A o) ∧ (∀ o, o ≠ 149 → B' o = B o) ∧ ∀ j, 48 ≤ j → B' 149 j = B 149 j := by
  have hn10 := hok.1.1
  have h48 := hok.1.2.1
  obtain ⟨A', eA, gA1, gA2, gA3⟩ := grow_cls (A := A) (whom := x) ha hn10
  obtain ⟨B1, eB, gB1, gB2, gB3⟩ := grow_ref (B := B) rfl hn10 h48
  refine ⟨A', _, eA, ⟨B1, eB, rfl⟩, ?_⟩
  have row0 : (zs B1 149 0 (B1 149 0 + 1)) 149 0 = B 149 0 + 1 := by rw [zs_ap, if_pos rfl, upd_ap, if_pos rfl, gB3 0 (by omega) (by omega)]
  have rowG : ∀ p, p < n → (zs B1 149 0 (B1 149 0 + 1)) 149 (37 + p) = B 149 (37 + p) + 1 ∧ (zs B1 149 0 (B1 149 0 + 1)) 149 (17 + p) = zmin 99 (B 149 (17 + p) + 1) := fun p hp => by
    rw [zs_ap, if_pos rfl, upd_ap, if_neg (by omega), upd_ap, if_neg (by omega)]
    exact gB2 p hp
  have row : ∀ j, j ≠ 0 → ¬ (37 ≤ j ∧ j < 37 + n) → ¬ (17 ≤ j ∧ j < 17 + n) → (zs B1 149 0 (B1 149 0 + 1)) 149 j = B 149 j := fun j h1 h2 h3 => by
    rw [zs_ap, if_pos rfl, upd_ap, if_neg h1]
    exact gB3 j h2 h3
  have hBo : ∀ o, o ≠ 149 → (zs B1 149 0 (B1 149 0 + 1)) o = B o := fun o ho => by rw [zs_ap, if_neg ho]; exact gB1 o ho
  generalize zs B1 149 0 (B1 149 0 + 1) = B' at *
  have hF : rowF (B 149) (B' 149) := fun j h1 h2 => row j (by omega) (by omega) (by omega)
  obtain ⟨⟨m1, m2, m3, m4, m5, m6, m7⟩, m8⟩ := hp
  obtain ⟨p1, ⟨y, p2, p3, p4⟩, p5, p6, p7⟩ := hpo
  refine ⟨fixIs_row hF hok (fixIs_of hf (fun o ho => gA1 o (by omega) (by omega) (by omega) (by omega))), fixOk_row hF hok, ⟨?_, fun p hp => ?_⟩, ⟨?_, ⟨y + 1, by omega, by rw [row0, p3, zadd1], fun p hp => ?_⟩, ?_, ?_, fun p hp => ?_⟩, gA1, hBo, fun j hj => row j (by omega) (by omega) (by omega)⟩
  · rw [gA2, gA2, gA2, gA2, gA2, gA2, gA2, if_neg (by decide), if_pos rfl, if_neg (by decide), if_neg (by decide), if_neg (by decide), if_neg (by decide), if_neg (by decide), row 1 (by decide) (by omega) (by omega), row0, row 2 (by decide) (by omega) (by omega), row 3 (by decide) (by omega) (by omega), row 6 (by decide) (by omega) (by omega), row 4 (by decide) (by omega) (by omega), row 5 (by decide) (by omega) (by omega)]
    exact ⟨m1, by rw [m2], m3, m4, m5, m6, m7⟩
  · obtain ⟨g1, g2, g3⟩ := gA3 p hp
    obtain ⟨r1, r2⟩ := rowG p hp
    obtain ⟨q1, q2, q3⟩ := m8 p hp
    rw [g1, g2, g3, r1, r2, gA1 (a + 4) (by omega) (by omega) (by omega) (by omega), row (27 + p) (by omega) (by omega) (by omega), row (7 + p) (by omega) (by omega) (by omega), q1]
    refine ⟨rfl, ?_, ?_, q2⟩
    · split
      · rename_i hc
        rw [if_pos hc] at q3
        exact q3.1.symm
      · rename_i hc
        rw [if_neg hc] at q3
        exact q3.1.symm
    · split
      · rename_i hc
        rw [if_pos hc] at q3
        rw [q3.2]
        rfl
      · rename_i hc
        rw [if_neg hc] at q3
        rw [q3.2]
  · rw [row 1 (by decide) (by omega) (by omega)]; exact p1
  · rw [row (27 + p) (by omega) (by omega) (by omega)]; exact p4 p hp
  · rw [row 5 (by decide) (by omega) (by omega)]; exact p5
  · rw [row 6 (by decide) (by omega) (by omega)]; exact p6
  · obtain ⟨⟨ag, h1, h2⟩, s, h3, h4, h5⟩ := p7 p hp
    refine ⟨?_, s, h3, by rw [row (7 + p) (by omega) (by omega) (by omega)]; exact h4, h5⟩
    rw [(rowG p hp).2, h2]
    obtain ⟨e, he, ee⟩ := zmin_range (x := znn ag + 1) (k := ag + 1) (m := 99) (zadd1 ag) (by omega) (by decide)
    exact ⟨e, he, ee⟩
theorem pass_eq {A B : ZI} {a n k c b Y : Nat} {r : Int32} (hr : (a = 2 ∧ r = 1 ∧ B 148 30 = 1 ∧ bookIs A 7 (B 149)) ∨ (a = 114 ∧ r = 0 ∧ B 148 30 = 0)) (hf : fixIs A 1 (B 149) n k c b) (hok : fixOk (B 149) n k c b) (hm : momIs A a (B 149) n) (hmo : momOk (B 149) n Y) :
    ∃ x v A' B', f25_pass 1 a r A = some (x, A') ∧ f204_aYear B = some (v, B') ∧ fixIs A' 1 (B' 149) n k c b ∧ fixOk (B' 149) n k c b ∧ momIs A' a (B' 149) n ∧ momOk (B' 149) n (Y + 1) ∧ (r = 1 → bookIs A' 7 (B' 149)) ∧ yAns (B 149) n x v ∧ (r = 0 → ∀ j, 48 ≤ j → B' 149 j = B 149 j) ∧ (∀ o, o ≠ 149 → o ≠ 159 → o ≠ 160 → B' o = B o) ∧ ∀ o, o ≠ 16 → o ≠ 33 → o ≠ 40 → o ≠ 41 → o ≠ a → o ≠ a + 1 → o ≠ a + 2 → o ≠ a + 3 → (r = 1 → ¬ (8 ≤ o ∧ o ≤ 11)) → A' o = A o := by
  have ha : a = 2 ∨ a = 114 := hr.elim (fun h => Or.inl h.1) (fun h => Or.inr h.1)
  have hn10 := hok.1.1
  have h48 := hok.1.2.1
  -- the end of a YEAR, once the class stands at A1 and the reference at B1
  have fin : ∀ (A1 B1 : ZI) (x v : Int32), fixIs A1 1 (B1 149) n k c b → fixOk (B1 149) n k c b → preIs A1 a (B1 149) n x → preOk (B1 149) n Y → (r = 1 → bookIs A1 7 (B1 149)) → yAns (B 149) n x v → (r = 0 → ∀ j, 48 ≤ j → B1 149 j = B 149 j) → (∀ o, o ≠ 149 → o ≠ 159 → o ≠ 160 → B1 o = B o) → (∀ o, o ≠ 16 → o ≠ 33 → o ≠ 40 → o ≠ 41 → o ≠ a → o ≠ a + 1 → o ≠ a + 2 → o ≠ a + 3 → (r = 1 → ¬ (8 ≤ o ∧ o ≤ 11)) → A1 o = A o) →
      ∃ A' B', ((f47_growOlder a (A1 1 11) x A1).bind fun M11 => some (x, M11)) = some (x, A') ∧ ((f204_l93 zfu 0 B1).bind fun M18 => zlet (zs M18 149 0 (M18 149 0 + 1)) fun M20 => some (v, M20)) = some (v, B') ∧ fixIs A' 1 (B' 149) n k c b ∧ fixOk (B' 149) n k c b ∧ momIs A' a (B' 149) n ∧ momOk (B' 149) n (Y + 1) ∧ (r = 1 → bookIs A' 7 (B' 149)) ∧ yAns (B 149) n x v ∧ (r = 0 → ∀ j, 48 ≤ j → B' 149 j = B 149 j) ∧ (∀ o, o ≠ 149 → o ≠ 159 → o ≠ 160 → B' o = B o) ∧ ∀ o, o ≠ 16 → o ≠ 33 → o ≠ 40 → o ≠ 41 → o ≠ a → o ≠ a + 1 → o ≠ a + 2 → o ≠ a + 3 → (r = 1 → ¬ (8 ≤ o ∧ o ≤ 11)) → A' o = A o := by
    intro A1 B1 x v g1 g2 g3 g4 g5 g6 g7 g8 g9
    obtain ⟨A', B', e1, ⟨B2, e2, rfl⟩, h1, h2, h3, h4, h5, h6, h7⟩ := grow_eq ha g1 g2 g3 g4
    refine ⟨A', _, ?_, ?_, h1, h2, h3, h4, fun hr1 => ?_, g6, fun h0 j hj => (h7 j hj).trans (g7 h0 j hj), fun o q1 q2 q3 => (h6 o q1).trans (g8 o q1 q2 q3), fun o q1 q2 q3 q4 q5 q6 q7 q8 q9 => (h5 o q5 q6 q7 q8).trans (g9 o q1 q2 q3 q4 q5 q6 q7 q8 q9)⟩
    · rw [g1.1.1.1.trans g2.1.2.1, e1]; rfl
    · rw [e2]; rfl
    · intro i hi
      have := g5 hr1 i hi
      rw [h7 _ (by omega), h7 _ (by omega), h7 _ (by omega), h7 _ (by omega), h5 _ (by omega) (by omega) (by omega) (by omega), h5 _ (by omega) (by omega) (by omega) (by omega), h5 _ (by omega) (by omega) (by omega) (by omega), h5 _ (by omega) (by omega) (by omega) (by omega)]
      exact this
  have m4 : A a 4 = B 149 1 := hm.1.1
  have f13 : A 1 13 = B 149 50 := hf.1.1.2.2.1
  have f12 : A 1 12 = B 149 49 := hf.1.1.2.1
  -- a line of its own: rested or kept
  have line : ∀ (A1 B1 : ZI) (kd x : Int32), (x = -1 ∨ x = -2) → fixIs A1 1 (B1 149) n k c b → fixOk (B1 149) n k c b → momIs A1 a (B1 149) n → momOk (B1 149) n Y → (r = 1 → bookIs A1 7 (B1 149)) → (∀ o, o ≠ 149 → o ≠ 159 → o ≠ 160 → B1 o = B o) →
      ∃ A2 B2, ((if r = 0 then some A1 else (f46_write (1 + 6) a kd (-1) 0 A1).bind fun M8 => some M8) : Option ZI) = some A2 ∧ f217_notes kd (-1) 0 B1 = some B2 ∧ fixIs A2 1 (B2 149) n k c b ∧ fixOk (B2 149) n k c b ∧ preIs A2 a (B2 149) n x ∧ preOk (B2 149) n Y ∧ (r = 1 → bookIs A2 7 (B2 149)) ∧ (r = 0 → B2 = B1) ∧ (∀ o, o ≠ 149 → B2 o = B1 o) ∧ ∀ o, o ≠ a → (r = 1 → ¬ (8 ≤ o ∧ o ≤ 11)) → A2 o = A1 o := by
    intro A1 B1 kd x hx g1 g2 g3 g4 g5 g6
    rcases hr with ⟨rfl, rfl, ht, -⟩ | ⟨rfl, rfl, ht⟩
    · have hbk : bkIs A1 (B1 149) := ⟨g5 rfl, g3.1.2.2.2.2.2.2, g3.1.2.1, g4.2.2.1⟩
      obtain ⟨A2, B2, e1, e2, e3, e4, e5, e6⟩ := note_eq (x := kd) (y := -1) (z := 0) rfl (by rw [g6 148 (by decide) (by decide) (by decide)]; exact ht) hbk
      have hF : rowF (B1 149) (B2 149) := fun j q1 q2 => e4 j (by omega) q2
      have hA2 : ∀ o, o ≠ 2 → ¬ (8 ≤ o ∧ o ≤ 11) → A2 o = A1 o := fun o q1 q2 => e6.1 o q1 (by omega) (by omega) (by omega) (by omega)
      have hm2 : momIs A2 2 (B2 149) n := by
        obtain ⟨⟨m1, m2, m3, m4, m5, m6, m7⟩, m8⟩ := g3
        refine ⟨⟨?_, ?_, ?_, ?_, ?_, ?_, e3.2.1⟩, fun p hp => ?_⟩
        · rw [e6.2 4 (by decide), e4 1 (by decide) (by omega)]; exact m1
        · rw [e6.2 5 (by decide), e4 0 (by decide) (by omega)]; exact m2
        · rw [e6.2 6 (by decide), e4 2 (by decide) (by omega)]; exact m3
        · rw [e6.2 7 (by decide), e4 3 (by decide) (by omega)]; exact m4
        · rw [e6.2 8 (by decide), e4 6 (by decide) (by omega)]; exact m5
        · rw [e6.2 9 (by decide), e4 4 (by decide) (by omega)]; exact m6
        · rw [hA2 _ (by omega) (by omega), hA2 _ (by omega) (by omega), hA2 _ (by omega) (by omega), hA2 _ (by omega) (by omega), e4 _ (by omega) (by omega), e4 _ (by omega) (by omega), e4 _ (by omega) (by omega), e4 _ (by omega) (by omega)]
          exact m8 p hp
      have hmo2 : momOk (B2 149) n Y := by
        obtain ⟨p1, ⟨y, p2, p3, p4⟩, p5, p6, p7⟩ := g4
        refine ⟨by rw [e4 1 (by decide) (by omega)]; exact p1, ⟨y, p2, by rw [e4 0 (by decide) (by omega)]; exact p3, fun p hp => by rw [e4 _ (by omega) (by omega)]; exact p4 p hp⟩, e3.2.2.2, by rw [e4 6 (by decide) (by omega)]; exact p6, fun p hp => by rw [e4 _ (by omega) (by omega), e4 _ (by omega) (by omega)]; exact p7 p hp⟩
      refine ⟨A2, B2, by rw [if_neg (by decide), e1]; rfl, e2, fixIs_row hF g2 (fixIs_of g1 (fun o ho => hA2 o (by omega) (by omega))), fixOk_row hF g2, pre_of hm2 hx hn10, preOk_of hmo2, fun _ => e3.1, fun h => absurd h (by decide), e5, fun o q1 q2 => hA2 o q1 (q2 rfl)⟩
    · refine ⟨A1, B1, by rw [if_pos rfl], by unfold f217_notes; rw [if_pos (by rw [g6 148 (by decide) (by decide) (by decide)]; exact ht)], g1, g2, pre_of g3 hx hn10, preOk_of g4, g5, fun _ => rfl, fun _ _ => rfl, fun _ _ _ => rfl⟩
  unfold f25_pass f204_aYear
  rw [m4, f13, f12]
  by_cases hrest : B 149 1 < B 149 50
  · rw [if_pos hrest, if_pos hrest]
    simp only [Option.bind_some, ↓reduceIte]
    obtain ⟨A1, a1, a2, a3⟩ := weigh_cls ha hf hok hm hmo
    have hf1 : fixIs A1 1 (B 149) n k c b := fixIs_of hf (fun o ho => a3 o (by omega) (by omega) (by omega))
    obtain ⟨A2, b1, b2⟩ := elect_cls (voter := -1) (other := -1) hf1 hok hmo a2
    obtain ⟨B2, c1, c2⟩ := giv_ref (M := B) rfl (ask_of hok) hmo
    rw [a1]
    simp only [Option.bind_some]
    rw [b1, c1, gNow_vo hn10]
    simp only [Option.bind_some]
    have hA2 : ∀ o, o ≠ 16 → o ≠ 41 → o ≠ 40 → o ≠ 33 → A2 o = A o := fun o q1 q2 q3 q4 => (b2 o q4).trans (a3 o q1 q2 q3)
    have e149 : B2 149 = B 149 := c2 149 (by decide) (by decide)
    have hf2 : fixIs A2 1 (B2 149) n k c b := by rw [e149]; exact fixIs_of hf (fun o ho => hA2 o (by omega) (by omega) (by omega) (by omega))
    have hm2 : momIs A2 a (B2 149) n := by rw [e149]; exact momIs_of hm (fun o q1 q2 => hA2 o (by omega) (by omega) (by omega) (by omega))
    have hbk2 : r = 1 → bookIs A2 7 (B2 149) := fun h1 => by
      rcases hr with ⟨-, -, -, hbk⟩ | ⟨-, h0, -⟩
      · rw [e149]
        intro i hi
        rw [hA2 _ (by omega) (by omega) (by omega) (by omega), hA2 _ (by omega) (by omega) (by omega) (by omega), hA2 _ (by omega) (by omega) (by omega) (by omega), hA2 _ (by omega) (by omega) (by omega) (by omega)]
        exact hbk i hi
      · rw [h0] at h1; exact absurd h1 (by decide)
    have hgn : sGiv (B 149) (fun v => B 149 (80 + v)) n n = gNow (B 149) n := rfl
    rw [hgn]
    cases hg : gNow (B 149) n with
    | none =>
      rw [optI_none, if_pos (show (-1 : Int32) < 0 by decide), if_pos rfl, if_neg (show ¬ (-1 : Int32) = -2 by decide)]
      simp only [Option.bind_some]
      obtain ⟨A3, B3, d1, d2, d3, d4, d5, d6, d7, d8, d9, d10⟩ := line A2 B2 2 (-1) (Or.inl rfl) hf2 (by rw [e149]; exact hok) hm2 (by rw [e149]; exact hmo) hbk2 (fun o q1 q2 q3 => c2 o q2 q3)
      rw [d1, d2]
      simp only [Option.bind_some]
      obtain ⟨A4, B4, f1, f2, f3⟩ := fin A3 B3 (-1) (-1) d3 d4 d5 d6 d7 (Or.inr ⟨hrest, Or.inl ⟨rfl, rfl⟩⟩) (fun h0 j hj => by rw [d8 h0, e149]) (fun o q1 q2 q3 => (d9 o q1).trans (c2 o q2 q3)) (fun o q1 q2 q3 q4 q5 q6 q7 q8 q9 => (d10 o q5 q9).trans (hA2 o q1 q4 q3 q2))
      exact ⟨-1, -1, A4, B4, f1, f2, f3⟩
    | some p =>
      have hp : p < n := (sGiv_lt _ _ _ _ _ hg).1
      have eo : optI (some p) = znn p := rfl
      rw [eo, if_neg (zn_nneg (by omega)), if_neg (zn_ne_neg (by omega))]
      obtain ⟨A3, B3, d1, d2, d3, d4, d5, d6, d7, d8, d9, d10⟩ := give_eq (A := A2) (B := B2) (r := r) (hr.imp (fun h => ⟨h.1, h.2.1, by rw [c2 148 (by decide) (by decide)]; exact h.2.2.1, hbk2 h.2.1⟩) (fun h => ⟨h.1, h.2.1, by rw [c2 148 (by decide) (by decide)]; exact h.2.2⟩)) rfl hp hf2 (by rw [e149]; exact hok) hm2 (by rw [e149]; exact hmo)
      rw [d1, d2]
      simp only [Option.bind_some]
      rw [e149] at d8 d9
      obtain ⟨A4, B4, f1, f2, f3⟩ := fin A3 B3 (znn p) (znn p) d3 (fixOk_row d8 hok) d4 d5 d10 (Or.inr ⟨hrest, Or.inr ⟨p, hp, rfl, rfl⟩⟩) d9 (fun o q1 q2 q3 => (d7 o q1 q2 q3).trans (c2 o q2 q3)) (fun o q1 q2 q3 q4 q5 q6 q7 q8 q9 => (d6 o q1 q4 q5 q9).trans (hA2 o q1 q4 q3 q2))
      exact ⟨znn p, znn p, A4, B4, f1, f2, f3⟩
  · rw [if_neg hrest, if_neg hrest]
    simp only [Option.bind_some, zlet]
    have h10 : ¬ (1 : Int32) = 0 := by decide
    have h20 : (-2 : Int32) < 0 := by decide
    simp only [Option.bind_some, gre_eq, if_neg h10, if_pos h20, ↓reduceIte]
    have hF : rowF (B 149) ((zs B 149 1 (zmax 0 (B 149 1 - B 149 49))) 149) := fun j q1 q2 => by rw [zs_ap, if_pos rfl, upd_ap, if_neg (by omega)]
    have hA1 : ∀ o, o ≠ a → (zs A a 4 (zmax 0 (B 149 1 - B 149 49))) o = A o := fun o ho => by rw [zs_ap, if_neg ho]
    have hrow : ∀ j, j ≠ 1 → (zs B 149 1 (zmax 0 (B 149 1 - B 149 49))) 149 j = B 149 j := fun j hj => by rw [zs_ap, if_pos rfl, upd_ap, if_neg hj]
    have hm1 : momIs (zs A a 4 (zmax 0 (B 149 1 - B 149 49))) a ((zs B 149 1 (zmax 0 (B 149 1 - B 149 49))) 149) n := by
      obtain ⟨⟨m1, m2, m3, m4, m5, m6, m7⟩, m8⟩ := hm
      refine ⟨?_, fun p hp => ?_⟩
      · simp only [zs_ap, upd_ap, Nat.reduceEqDiff, ↓reduceIte]
        exact ⟨trivial, m2, m3, m4, m5, m6, m7⟩
      · rw [hA1 _ (by omega), hA1 _ (by omega), hA1 _ (by omega), hA1 _ (by omega), hrow _ (by omega), hrow _ (by omega), hrow _ (by omega), hrow _ (by omega)]
        exact m8 p hp
    have hmo1 : momOk ((zs B 149 1 (zmax 0 (B 149 1 - B 149 49))) 149) n Y := by
      obtain ⟨⟨e, p0, p1⟩, ⟨y, p2, p3, p4⟩, p5, p6, p7⟩ := hmo
      obtain ⟨rr, q0, q1⟩ := hok.1.2.2.1
      refine ⟨?_, ⟨y, p2, by rw [hrow _ (by decide)]; exact p3, fun p hp => by rw [hrow _ (by omega)]; exact p4 p hp⟩, by rw [hrow _ (by decide)]; exact p5, by rw [hrow _ (by decide)]; exact p6, fun p hp => by rw [hrow _ (by omega), hrow _ (by omega)]; exact p7 p hp⟩
      rw [zs_ap, if_pos rfl, upd_ap, if_pos rfl, p1, q1]
      have hall : ∀ e : Fin 25, ∀ q : Fin 25, zmax 0 (znn e.val - znn q.val) = znn (e.val - q.val) := by decide +kernel
      have h2 := hall ⟨e, by omega⟩ ⟨rr, by omega⟩
      exact ⟨e - rr, by omega, h2⟩
    obtain ⟨A3, B3, d1, d2, d3, d4, d5, d6, d7, d8, d9, d10⟩ := line (zs A a 4 (zmax 0 (B 149 1 - B 149 49))) (zs B 149 1 (zmax 0 (B 149 1 - B 149 49))) 1 (-2) (Or.inr rfl) (fixIs_row hF hok (fixIs_of hf (fun o ho => hA1 o (by omega)))) (fixOk_row hF hok) hm1 hmo1 (fun h1 => by
      rcases hr with ⟨rfl, -, -, hbk⟩ | ⟨-, h0, -⟩
      · intro i hi
        rw [hA1 _ (by omega), hA1 _ (by omega), hA1 _ (by omega), hA1 _ (by omega), hrow _ (by omega), hrow _ (by omega), hrow _ (by omega), hrow _ (by omega)]
        exact hbk i hi
      · rw [h0] at h1; exact absurd h1 (by decide)) (fun o q1 _ _ => by rw [zs_ap, if_neg q1])
    rw [d1, d2]
    simp only [Option.bind_some]
    obtain ⟨A4, B4, f1, f2, f3⟩ := fin A3 B3 (-2) (-1) d3 d4 d5 d6 d7 (Or.inl ⟨hrest, rfl, rfl⟩) (fun h0 j hj => by rw [d8 h0]; exact hrow j (by omega)) (fun o q1 q2 q3 => (d9 o q1).trans (by rw [zs_ap, if_neg q1])) (fun o q1 q2 q3 q4 q5 q6 q7 q8 q9 => (d10 o q5 q9).trans (hA1 o q5))
    exact ⟨-2, -1, A4, B4, f1, f2, f3⟩
