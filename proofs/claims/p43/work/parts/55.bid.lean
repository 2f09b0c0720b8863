-- ===== bid, sold, look, end, feed =====
theorem fix_bid {A A' : ZI} {w w' : Nat → Int32} {n k c b : Nat} (hf : fixIs A 1 w n k c b) (hok : fixOk w n k c b) (g : ∀ o, ¬ (34 ≤ o ∧ o ≤ 36) → A' o = A o) (h : ∀ j, j ≠ 55 → ¬ (562 ≤ j ∧ j < 578) → w' j = w j) {b' : Nat} (hb : bidIs A' 34 w' b') (hb8 : b' ≤ 8) (h55 : w' 55 = znn b') : fixIs A' 1 w' n k c b' ∧ fixOk w' n k c b' := by
  obtain ⟨f1, f2, f3, f4, f5⟩ := hf
  obtain ⟨o1, o2, o3, o4, o5, o6⟩ := hok
  have hk12 := o3.1
  have hn10 := o1.1
  have e2 : ∀ j, 1178 ≤ j → w' j = w j := fun j q1 => h j (by omega) (by omega)
  have e : ∀ j, j ≠ 55 → j < 562 → w' j = w j := fun j q1 q2 => h j q1 (by omega)
  refine ⟨⟨?_, ?_, ?_, ?_, hb⟩, ⟨?_, ?_, ?_, ?_, hb8, h55⟩⟩
  · obtain ⟨p1, p2⟩ := pplIs_of f1 (A' := A') (fun o ho => g o (by omega))
    refine ⟨by rw [e 48 (by decide) (by decide), e 49 (by decide) (by decide), e 50 (by decide) (by decide), e 56 (by decide) (by decide), e 57 (by decide) (by decide)]; exact p1, fun p hp => ?_⟩
    rw [e _ (by omega) (by omega), e _ (by omega) (by omega), e _ (by omega) (by omega)]
    exact p2 p hp
  · exact lawIs_L (h 58 (by decide) (by omega)) e2 (lawIs_of f2 (fun o ho => g o (by omega)))
  · exact wrkIs_W (h 52 (by decide) (by omega)) (fun j q1 q2 => e j (by omega) (by omega)) hk12 (wrkIs_of f3 (by rw [g 21 (by omega)]) (fun o q1 q2 => g o (by omega)))
  · exact ruleIs_C (h 53 (by decide) (by omega)) (h 54 (by decide) (by omega)) (fun j q1 q2 => e j (by omega) (by omega)) o4 (ruleIs_of f4 (fun o q1 q2 => g o (by omega)))
  · obtain ⟨p1, p2, p3, p4, p5, p6, p7, p8⟩ := o1
    refine ⟨p1, by rw [e 48 (by decide) (by decide)]; exact p2, by rw [e 49 (by decide) (by decide)]; exact p3, by rw [e 50 (by decide) (by decide)]; exact p4, by rw [e 56 (by decide) (by decide)]; exact p5, by rw [e 57 (by decide) (by decide)]; exact p6, by rw [e 51 (by decide) (by decide), voiceN_P n (fun p hp => e _ (by omega) (by omega))]; exact p7, fun p hp => ?_⟩
    rw [e _ (by omega) (by omega), e _ (by omega) (by omega), e _ (by omega) (by omega)]
    exact p8 p hp
  · exact lawOk_L (h 58 (by decide) (by omega)) e2 o2
  · exact wrkOk_W (h 52 (by decide) (by omega)) (fun j q1 q2 => e j (by omega) (by omega)) (Nat.le_refl _) o3
  · exact ruleOk_C (h 53 (by decide) (by omega)) (h 54 (by decide) (by omega)) (fun j q1 q2 => e j (by omega) (by omega)) o4
theorem Inv2_bid {A A' B B' : ZI} {n k c b b' : Nat} (h0 : Inv5 A B n k c b) (h6 : pastIs A B n) (h7 : imgIs A B) (h8 : tapeIs A B) (gA : ∀ o, ¬ (34 ≤ o ∧ o ≤ 36) → A' o = A o) (gB : ∀ o, o ≠ 149 → B' o = B o) (h : ∀ j, j ≠ 55 → ¬ (562 ≤ j ∧ j < 578) → B' 149 j = B 149 j) (hb : bidIs A' 34 (B' 149) b') (hb8 : b' ≤ 8) (h55 : B' 149 55 = znn b') : Inv2 A' B' := by
  obtain ⟨h1, h2, h3, h4, h5⟩ := h0
  have hn10 := h2.1.1
  obtain ⟨f1, f2⟩ := fix_bid h1 h2 gA h hb hb8 h55
  have hrow : ∀ j, j < 48 → B' 149 j = B 149 j := fun j hj => h j (by omega) (by omega)
  exact ⟨n, k, c, b', ⟨f1, f2, momIs_row (momIs_of h3 (fun q q1 q2 => gA q (by omega))) hn10 hrow, momOk_row h4 hn10 hrow, bookIs_row (bookIs_of h5 (fun o q1 q2 => gA o (by omega))) (fun j q1 q2 => h j (by omega) (by omega))⟩, pastIs_of h6 ⟨by rw [gA 0 (by omega)], by rw [gA 0 (by omega)], fun o q1 q2 => gA o (by omega)⟩ ⟨by rw [gB 148 (by decide)], gB 151 (by decide)⟩, imgIs_of h7 ⟨by rw [gA 0 (by omega)], fun o q1 q2 => gA o (by omega)⟩ ⟨by rw [gB 148 (by decide)], gB 150 (by decide)⟩, tapeIs_of h8 ⟨by rw [gA 119 (by omega)], by rw [gA 119 (by omega)], by rw [gA 119 (by omega)], gA 120 (by omega)⟩ ⟨by rw [gB 148 (by decide)], by rw [gB 148 (by decide)], by rw [gB 148 (by decide)], gB 158 (by decide)⟩⟩
theorem sync_bid (x y : Int32) : sync (f116_bid x y) (f258_bid x y) := by
  rintro A B ⟨n, k, c, b, h0, h6, h7, h8⟩
  have hI : Inv2 A B := ⟨n, k, c, b, h0, h6, h7, h8⟩
  have hb8 := h0.2.1.2.2.2.2.1
  have h55 : B 149 55 = znn b := h0.2.1.2.2.2.2.2
  obtain ⟨hb1, hb2⟩ : bidIs A 34 (B 149) b := h0.1.2.2.2.2
  by_cases hx : x = -1
  · subst hx
    refine ⟨0, zs A 34 2 0, zs B 149 55 0, rfl, rfl, Inv2_bid (b' := 0) h0 h6 h7 h8 (fun o ho => zs_df (by omega)) (fun o ho => zs_df ho) (fun j q1 q2 => by rw [zs_sm, if_neg q1]) ⟨by rw [zs_sm, zs_sm]; rfl, fun i hi => by omega⟩ (by decide) (by rw [zs_sm]; rfl), fun o ho => zs_df (by omega), fun o ho => zs_df (by omega)⟩
  rcases has_eq h0 x with ⟨p, hp, rfl, e1, e2⟩ | ⟨e1, e2⟩
  case inr => exact sync_same (v := -1) hI (by unfold f116_bid; rw [if_neg hx, e1]; rfl) (by unfold f258_bid; rw [if_neg hx, e2]; rfl)
  rcases within_ex (x := y) (lo := 0) (hi := 9999) (by decide) (by decide) with ⟨u, -, hu, rfl, e3, e4⟩ | ⟨e3, e4⟩
  case inr => exact sync_same (v := -1) hI (by unfold f116_bid; rw [if_neg hx, e1, show f13_within y 0 9999 = some 0 from e3]; rfl) (by unfold f258_bid; rw [if_neg hx, e2, show f149_isIn y 0 9999 = some 0 from e4]; rfl)
  have a2 : A 34 2 = znn b := hb1.trans h55
  by_cases hfull : b = 8
  · subst hfull
    refine sync_same (v := -1) hI ?_ ?_
    · unfold f116_bid; rw [if_neg hx, e1, show f13_within (znn u) 0 9999 = some 1 from e3, a2]; rfl
    · unfold f258_bid; rw [if_neg hx, e2, show f149_isIn (znn u) 0 9999 = some 1 from e4, h55]; rfl
  have hz8 : zin (znn b) 8 = true := (zn_zin (by omega)).mpr (by omega)
  have zz8 : zi (znn b) = b := zn_zi (by omega)
  have q1 : (562 : Int32) + 2 * znn b = znn (562 + 2 * b) := by rw [zl562, zl2, zn_mul, zn_add]
  have q2 : znn (562 + 2 * b) + 1 = znn (563 + 2 * b) := by rw [zadd1]; congr 1; omega
  have q3 : zin (znn (562 + 2 * b)) 2064 = true := (zn_zin (by omega)).mpr (by omega)
  have q4 : zin (znn (563 + 2 * b)) 2064 = true := (zn_zin (by omega)).mpr (by omega)
  have q5 : zi (znn (562 + 2 * b)) = 562 + 2 * b := zn_zi (by omega)
  have q6 : zi (znn (563 + 2 * b)) = 563 + 2 * b := zn_zi (by omega)
  have lt8 : znn b < 8 := by rw [zl8, zn_lt (by omega) (by decide)]; omega
  have ne8 : ¬ znn b = 8 := by rw [zl8, zn_eq (by omega) (by decide)]; exact hfull
  have gA : ∀ o, ¬ (34 ≤ o ∧ o ≤ 36) → (zs (zs (zs A 35 b (znn p)) 36 b (znn u)) 34 2 (znn (b + 1))) o = A o := fun o ho => by rw [zs_df (by omega), zs_df (by omega), zs_df (by omega)]
  have hB : ∀ j, (zs (zs (zs B 149 (562 + 2 * b) (znn p)) 149 (563 + 2 * b) (znn u)) 149 55 (znn (b + 1))) 149 j = if j = 55 then znn (b + 1) else if j = 563 + 2 * b then znn u else if j = 562 + 2 * b then znn p else B 149 j := fun j => by rw [zs_sm, zs_sm, zs_sm]
  have gB : ∀ o, o ≠ 149 → (zs (zs (zs B 149 (562 + 2 * b) (znn p)) 149 (563 + 2 * b) (znn u)) 149 55 (znn (b + 1))) o = B o := fun o ho => by rw [zs_df ho, zs_df ho, zs_df ho]
  refine ⟨znn (b + 1), zs (zs (zs A 35 b (znn p)) 36 b (znn u)) 34 2 (znn (b + 1)), zs (zs (zs B 149 (562 + 2 * b) (znn p)) 149 (563 + 2 * b) (znn u)) 149 55 (znn (b + 1)), ?_, ?_, Inv2_bid (b' := b + 1) h0 h6 h7 h8 gA gB (fun j q1 q2 => by rw [hB, if_neg q1, if_neg (by omega), if_neg (by omega)]) ⟨?_, fun i hi => ⟨?_, ?_⟩⟩ (by omega) (by rw [hB, if_pos rfl]), fun o ho => gA o (by omega), fun o ho => gB o (by omega)⟩
  · unfold f116_bid f117_add
    rw [if_neg hx, e1, show f13_within (znn u) 0 9999 = some 1 from e3, a2]
    simp only [Option.bind_some, if_neg h10, if_pos lt8, if_pos hz8, zz8, zlet_e]
    rw [zs_df (show (34 : Nat) ≠ 35 by decide), a2, if_pos hz8, zz8, zs_df (show (34 : Nat) ≠ 36 by decide), zs_df (show (34 : Nat) ≠ 35 by decide), a2, zadd1]
    simp only [Option.bind_some, zs_sm, ↓reduceIte]
  · unfold f258_bid
    rw [if_neg hx, e2, show f149_isIn (znn u) 0 9999 = some 1 from e4, h55]
    simp only [Option.bind_some, if_neg h10, if_neg ne8, q1, if_pos q3, q5, zlet_e]
    rw [zs_sm, if_neg (show ¬ 55 = 562 + 2 * b by omega), h55, q1, q2, if_pos q4, q6, zs_sm _ 149 55, if_pos rfl, zs_sm _ 149 (563 + 2 * b), if_neg (show ¬ 55 = 563 + 2 * b by omega), zs_sm, if_neg (show ¬ 55 = 562 + 2 * b by omega), h55, zadd1]
  · rw [hB, if_pos rfl, zs_sm, if_pos rfl]
  · rw [hB, if_neg (by omega), if_neg (by omega), zs_df (show (35 : Nat) ≠ 34 by decide), zs_df (show (35 : Nat) ≠ 36 by decide), zs_sm]
    by_cases hib : i = b
    · rw [if_pos hib, if_pos (by omega)]
    · rw [if_neg hib, if_neg (by omega)]
      exact (hb2 i (by omega)).1
  · rw [hB, if_neg (by omega), zs_df (show (36 : Nat) ≠ 34 by decide), zs_sm]
    by_cases hib : i = b
    · rw [if_pos hib, if_pos (by omega)]
    · rw [if_neg hib, if_neg (by omega), if_neg (by omega), zs_df (show (36 : Nat) ≠ 35 by decide)]
      exact (hb2 i (by omega)).2
theorem syncP_sold (x : Int32) : syncP (f118_sold x) (f259_sold x) := by
  rintro A B ⟨n, k, c, b, h0, -⟩
  have hb8 := h0.2.1.2.2.2.2.1
  have h55 : B 149 55 = znn b := h0.2.1.2.2.2.2.2
  obtain ⟨hb1, hb2⟩ : bidIs A 34 (B 149) b := h0.1.2.2.2.2
  have a2 : A 34 2 = znn b := hb1.trans h55
  by_cases hb0 : b = 0
  · subst hb0
    exact ⟨-1, by unfold f118_sold; rw [if_pos (show A 34 2 = 0 from a2)], by unfold f259_sold; rw [if_pos (show B 149 55 = 0 from h55)]⟩
  have nb0 : ¬ znn b = 0 := by rw [zl0, zn_eq (by omega) (by decide)]; exact hb0
  have i1 : ∀ i, i < b → zin (znn i) 8 = true := fun i hi => (zn_zin (by omega)).mpr (by omega)
  have i2 : ∀ i, i < b → zi (znn i) = i := fun i hi => zn_zi (by omega)
  have j1 : ∀ i, (562 : Int32) + 2 * znn i = znn (562 + 2 * i) := fun i => by rw [zl562, zl2, zn_mul, zn_add]
  have j2 : ∀ i, znn (562 + 2 * i) + 1 = znn (563 + 2 * i) := fun i => by rw [zadd1]; congr 1; omega
  have j3 : ∀ i, i < b → zin (znn (562 + 2 * i)) 2064 = true ∧ zin (znn (563 + 2 * i)) 2064 = true ∧ zi (znn (562 + 2 * i)) = 562 + 2 * i ∧ zi (znn (563 + 2 * i)) = 563 + 2 * i := fun i hi => ⟨(zn_zin (by omega)).mpr (by omega), (zn_zin (by omega)).mpr (by omega), zn_zi (by omega), zn_zi (by omega)⟩
  obtain ⟨r, r', g1, g2, rfl, q, hq, rfl⟩ := zpair (fun f (a : Int32) c => f120_l4 34 A f a c) (fun f (a : Int32) c => f259_l25 B f a c) b (fun _ a d => a = d ∧ ∃ q, q < b ∧ a = znn q) (fun a d => a = d ∧ ∃ q, q < b ∧ a = znn q) (fun f i a d hi had => by
    obtain ⟨rfl, q, hq, rfl⟩ := had
    left
    (try dsimp only)
    have lt : znn i < znn b := (zn_lt (by omega) (by omega)).mpr hi
    obtain ⟨-, w1, -, w2⟩ := j3 i hi
    obtain ⟨-, w3, -, w4⟩ := j3 q hq
    rw [f120_l4, f259_l25, a2, h55, if_pos lt, if_pos lt, i1 i hi, i1 q hq, i2 i hi, i2 q hq, j1, j2, j1, j2, w1, w2, w3, w4, show A (34 + 2) q = _ from (hb2 q hq).2, show A (34 + 2) i = _ from (hb2 i hi).2, zadd1]
    simp only [↓reduceIte]
    by_cases hc : B 149 (563 + 2 * q) < B 149 (563 + 2 * i)
    · rw [if_pos hc, if_pos hc]
      exact ⟨_, _, ⟨rfl, i, hi, rfl⟩, rfl, rfl⟩
    · rw [if_neg hc, if_neg hc]
      exact ⟨_, _, ⟨rfl, q, hq, rfl⟩, rfl, rfl⟩) (fun f a d had => by
    have hng : ¬ znn b < znn b := by rw [zn_lt (by omega) (by omega)]; omega
    refine ⟨a, d, had, ?_, ?_⟩
    · (try dsimp only)
      rw [f120_l4, a2, if_neg hng]
    · (try dsimp only)
      rw [f259_l25, h55, if_neg hng]) zfu 1 0 0 (by omega) (by rw [zfu_eq]; omega) ⟨rfl, 0, by omega, rfl⟩
  obtain ⟨s, s', g3, g4, rfl⟩ := zpair (fun f (a : Int32) c => f121_l9 34 A (znn q) f a c) (fun f (a : Int32) c => f259_l80 B (znn q) f a c) b (fun _ a d => a = d) (fun a d => a = d) (fun f i a d hi had => by
    subst had
    left
    (try dsimp only)
    have lt : znn i < znn b := (zn_lt (by omega) (by omega)).mpr hi
    obtain ⟨-, w1, -, w2⟩ := j3 i hi
    rw [f121_l9, f259_l80, a2, h55, if_pos lt, if_pos lt, i1 i hi, i2 i hi, j1, j2, w1, w2, show A (34 + 2) i = _ from (hb2 i hi).2, zadd1]
    simp only [↓reduceIte, gre_eq, Option.bind_some, zlet_e]
    by_cases hc : znn i = znn q
    · rw [if_pos hc, if_pos hc]
      exact ⟨_, _, rfl, rfl, rfl⟩
    · rw [if_neg hc, if_neg hc]
      exact ⟨_, _, rfl, rfl, rfl⟩) (fun f a d had => by
    have hng : ¬ znn b < znn b := by rw [zn_lt (by omega) (by omega)]; omega
    refine ⟨a, d, had, ?_, ?_⟩
    · (try dsimp only)
      rw [f121_l9, a2, if_neg hng]
    · (try dsimp only)
      rw [f259_l80, h55, if_neg hng]) zfu 0 0 0 (by omega) (by rw [zfu_eq]; omega) rfl
  have g1 : f120_l4 34 A zfu 0 1 = some (znn q) := g1
  have g2 : f259_l25 B zfu 0 1 = some (znn q) := g2
  have g3 : f121_l9 34 A (znn q) zfu 0 0 = some s := g3
  have g4 : f259_l80 B (znn q) zfu 0 0 = some s := g4
  rcases within_ex (x := x) (lo := 0) (hi := 1) (by decide) (by decide) with ⟨u, -, hu, rfl, -, e2⟩ | ⟨e1, e2⟩
  · obtain ⟨w3, -, w4, -⟩ := j3 q hq
    have hu2 : u = 0 ∨ u = 1 := by omega
    rcases hu2 with rfl | rfl
    · refine ⟨B 149 (562 + 2 * q), ?_, ?_⟩
      · unfold f118_sold f119_winner f120_greatest
        rw [a2, if_neg nb0, if_pos (show znn 0 = 0 from rfl), g1]
        simp only [Option.bind_some]
        rw [i1 q hq, i2 q hq, show A (34 + 1) q = _ from (hb2 q hq).1]
        rfl
      · unfold f259_sold
        rw [h55, if_neg nb0, show f149_isIn (znn 0) 0 1 = some 1 from e2]
        simp only [Option.bind_some, if_neg h10]
        rw [g2]
        simp only [Option.bind_some]
        rw [g4]
        simp only [Option.bind_some]
        rw [if_pos (show znn 0 = 0 from rfl), j1, w3, w4]
        rfl
    · refine ⟨s, ?_, ?_⟩
      · unfold f118_sold f121_price f120_greatest
        rw [a2, if_neg nb0, if_neg (show ¬ znn 1 = 0 by decide), if_pos (show znn 1 = 1 from rfl), g1]
        simp only [Option.bind_some]
        rw [g3]
        rfl
      · unfold f259_sold
        rw [h55, if_neg nb0, show f149_isIn (znn 1) 0 1 = some 1 from e2]
        simp only [Option.bind_some, if_neg h10]
        rw [g2]
        simp only [Option.bind_some]
        rw [g4]
        simp only [Option.bind_some]
        rw [if_neg (show ¬ znn 1 = 0 by decide)]
  · have hx0 : ¬ x = 0 := fun h => by subst h; exact absurd e2 (by decide)
    have hx1 : ¬ x = 1 := fun h => by subst h; exact absurd e2 (by decide)
    exact ⟨-1, by unfold f118_sold; rw [a2, if_neg nb0, if_neg hx0, if_neg hx1], by unfold f259_sold; rw [h55, if_neg nb0, show f149_isIn x 0 1 = some 0 from e2]; rfl⟩
