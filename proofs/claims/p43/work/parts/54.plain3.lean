-- ===== doers, clique, bid, sold, look, end, feed =====
theorem xor_at {s p : Nat} (hs : s.testBit p = true) : s &&& (2 ^ p ^^^ 4294967295) = s ^^^ 2 ^ p ∨ 32 ≤ p ∨ ¬ s < 2 ^ 32 := by
  by_cases hp : p < 32
  · by_cases hs32 : s < 2 ^ 32
    · left
      apply Nat.eq_of_testBit_eq
      intro i
      by_cases hi : i < 32
      · rw [tb_not hi, Nat.testBit_xor, Nat.testBit_two_pow]
        by_cases hip : p = i
        · subst hip; rw [hs]; simp
        · simp [hip]
      · have h1 : s.testBit i = false := Nat.testBit_lt_two_pow (Nat.lt_of_lt_of_le hs32 (Nat.pow_le_pow_right (by decide) (by omega)))
        rw [Nat.testBit_and, Nat.testBit_xor, Nat.testBit_two_pow, h1]
        have : ¬ p = i := by omega
        simp [this, h1]
    · exact Or.inr (Or.inr hs32)
  · exact Or.inr (Or.inl (by omega))
theorem xor_at' {s p : Nat} (hs : s.testBit p = true) (h : s < 1024) (hp : p < 10) : s &&& (2 ^ p ^^^ 4294967295) = s ^^^ 2 ^ p := by
  rcases xor_at hs with h1 | h1 | h1
  · exact h1
  · omega
  · omega
theorem sync_doers (x : Int32) : sync (f127_doers x) (f243_doers x) := sync_q (by
  intro A B n k c b h0
  have hn10 := h0.2.1.1.1
  have h48 := h0.2.1.1.2.1
  have hp := pow_1024 hn10
  have hru := h0.2.1.2.2.2.1
  rcases within_ex (x := x) (lo := 0) (hi := 2) (by decide) (by decide) with ⟨u, -, hu, rfl, e1, e2⟩ | ⟨e1, e2⟩
  case inr => exact ⟨-1, A, B, by unfold f127_doers; rw [show f13_within x 0 2 = some 0 from e1]; rfl, by unfold f243_doers; rw [show f149_isIn x 0 2 = some 0 from e2]; rfl, scrA_refl A, scrB_refl B, fun _ _ => rfl, fun _ _ => rfl⟩
  obtain ⟨A1, a1, a2, a3⟩ := fill_cls h0
  have hI1 : Inv5 A1 B n k c b := Inv5_scr h0 (fill_scr a3) rfl
  have h11 : A1 1 11 = znn n := hI1.1.1.1.1.trans h48
  -- whether each one is needed
  have need : ∀ (s : Nat) (B3 : ZI), s < 2 ^ n → (∀ o, o ≠ 159 → B3 o = B o) → ∃ v B4, f128_needsEachOne (znn s) A1 = some v ∧ f244_needsAll (znn s) B3 = some (v, B4) ∧ ∀ o, o ≠ 159 → B4 o = B o := by
    intro s B3 hs hB3
    obtain ⟨v, ⟨v', B4⟩, g1, g2, g3, g4⟩ := zpair (fun f (_ : Unit) c => f128_l2 (znn s) A1 f c) (fun f (d : ZI) c => f244_l2 (znn s) f c d) n (fun _ _ d => ∀ o, o ≠ 159 → d o = B o) (fun (a : Int32) (d : Int32 × ZI) => a = d.1 ∧ ∀ o, o ≠ 159 → d.2 o = B o) (fun f i a d hi had => by
      (try dsimp only)
      have hlt : znn i < znn n := (zn_lt (by omega) (by omega)).mpr hi
      have e48 : d 149 48 = znn n := by rw [had 149 (by decide)]; exact h48
      have pwi : 2 ^ i < 2 ^ n := Nat.pow_lt_pow_right (by decide) hi
      have hx : s ^^^ 2 ^ i < 2 ^ n := Nat.xor_lt_two_pow hs pwi
      have hz : zin (znn (s ^^^ 2 ^ i)) 1024 = true := (zn_zin (by omega)).mpr (by omega)
      rw [f128_l2, f244_l2, h11, e48, if_pos hlt, if_pos hlt, isIn_zn (by omega) (by omega), zbit (by omega) (by omega), show zshl 1 (znn i) = znn (2 ^ i) by rw [zl1]; exact zn_shl (by omega), zn_xor, if_pos hz, zn_zi (by omega), a2 _ hx, zadd1]
      simp only [Option.bind_some]
      by_cases hb : s.testBit i = true
      · have ex : znn s &&& (znn (2 ^ i) ^^^ -1) = znn (s ^^^ 2 ^ i) := by rw [not_zn, xor_at' hb (by omega) (by omega)]
        obtain ⟨B5, b1, b2⟩ := sat_eq (M := d) (show s ^^^ 2 ^ i < 1024 by omega) hru (had 149 (by decide))
        have gg : ∀ o, o ≠ 159 → B5 o = B o := fun o ho => (b2 o ho).trans (had o ho)
        simp only [if_pos hb, if_neg h10, ↓reduceIte]
        rw [ex, b1]
        simp only [Option.bind_some]
        rcases sSat_01 hru (show s ^^^ 2 ^ i < 1024 by omega) with h | h
        · rw [h]
          simp only [↓reduceIte]
          exact Or.inl ⟨(), B5, gg, trivial, rfl⟩
        · rw [h]
          simp only [if_neg h10]
          exact Or.inr ⟨0, (0, B5), ⟨rfl, gg⟩, rfl, rfl⟩
      · simp only [if_neg hb, if_neg (show ¬ (0 : Int32) = 1 by decide), ↓reduceIte]
        exact Or.inl ⟨(), d, had, trivial, rfl⟩) (fun f a d had => by
      have e48 : d 149 48 = znn n := by rw [had 149 (by decide)]; exact h48
      have hng : ¬ znn n < znn n := by rw [zn_lt (by omega) (by omega)]; omega
      refine ⟨1, (1, d), ⟨rfl, had⟩, ?_, ?_⟩
      · (try dsimp only)
        rw [f128_l2, h11, if_neg hng]
      · (try dsimp only)
        rw [f244_l2, e48, if_neg hng]) zfu 0 () B3 (by omega) (by rw [zfu_eq]; omega) hB3
    simp only at g3 g4
    subst g3
    exact ⟨v, B4, g1, g2, g4⟩
  obtain ⟨⟨r1, r2, r3⟩, ⟨s1, s2, s3, B2⟩, g1, g2, g3, g4, g5, g6⟩ := zpair (fun f (a : Int32 × Int32 × Int32) c => f127_l34 A1 (znn (2 ^ n - 1)) f a.1 a.2.1 a.2.2 c) (fun f (d : Int32 × Int32 × Int32 × ZI) c => f243_l24 f d.1 d.2.1 d.2.2.1 c d.2.2.2) (2 ^ n) (fun _ a d => a.1 = d.1 ∧ a.2.1 = d.2.1 ∧ a.2.2 = d.2.2.1 ∧ ∀ o, o ≠ 159 → d.2.2.2 o = B o) (fun a d => a.1 = d.1 ∧ a.2.1 = d.2.1 ∧ a.2.2 = d.2.2.1 ∧ ∀ o, o ≠ 159 → d.2.2.2 o = B o) (fun f i a d hi had => by
    obtain ⟨x1, x2, x3⟩ := a
    obtain ⟨y1, y2, y3, B3⟩ := d
    obtain ⟨rfl, rfl, rfl, g⟩ := had
    simp only at g
    left
    (try dsimp only)
    have e48 : B3 149 48 = znn n := by rw [g 149 (by decide)]; exact h48
    have hz : zin (znn i) 1024 = true := (zn_zin (by omega)).mpr (by omega)
    have hng : ¬ znn (2 ^ n - 1) < znn i := by rw [zn_lt (by omega) (by omega)]; omega
    have hlt1 : znn i < 1024 := by rw [zl1024, zn_lt (by omega) (by decide)]; omega
    obtain ⟨B4, b1, b2⟩ := sat_eq (M := B3) (show i < 1024 by omega) hru (g 149 (by decide))
    have gg : ∀ o, o ≠ 159 → B4 o = B o := fun o ho => (b2 o ho).trans (g o ho)
    obtain ⟨v, B5, n1, n2, n3⟩ := need i B4 hi gg
    rw [f127_l34, f243_l24, all_ref hn10 e48, if_neg hng, if_pos hlt1, if_pos hz, zn_zi (by omega), a2 i hi, n1, zadd1]
    simp only [Option.bind_some]
    rw [if_neg hng, b1]
    simp only [Option.bind_some]
    rw [n2]
    simp only [Option.bind_some, zlet_e]
    rcases sSat_01 hru (show i < 1024 by omega) with h | h
    · rw [h]
      simp only [↓reduceIte]
      exact ⟨(x1, x2, x3), (x1, x2, x3, B4), ⟨rfl, rfl, rfl, gg⟩, rfl, rfl⟩
    · rw [h]
      simp only [if_neg h10]
      by_cases hv : v = 0
      · simp only [if_pos hv, Option.bind_some]
        exact ⟨(x1 + 1, x2 + 0, x3 &&& znn i), (x1 + 1, x2 + 0, x3 &&& znn i, B5), ⟨rfl, rfl, rfl, n3⟩, rfl, rfl⟩
      · simp only [if_neg hv, Option.bind_some]
        exact ⟨(x1 + 1, x2 + 1, x3 &&& znn i), (x1 + 1, x2 + 1, x3 &&& znn i, B5), ⟨rfl, rfl, rfl, n3⟩, rfl, rfl⟩) (fun f a d had => by
    obtain ⟨x1, x2, x3⟩ := a
    obtain ⟨y1, y2, y3, B3⟩ := d
    have g := had.2.2.2
    simp only at g
    have e48 : B3 149 48 = znn n := by rw [g 149 (by decide)]; exact h48
    have hyg : znn (2 ^ n - 1) < znn (2 ^ n) := by rw [zn_lt (by omega) (by omega)]; omega
    refine ⟨_, _, had, ?_, ?_⟩
    · (try dsimp only)
      rw [f127_l34, if_pos hyg]
    · (try dsimp only)
      rw [f243_l24, all_ref hn10 e48]
      simp only [Option.bind_some]
      rw [if_pos hyg]) zfu 0 (0, 0, znn (2 ^ n - 1)) (0, 0, znn (2 ^ n - 1), B) (by omega) (by rw [zfu_eq]; omega) ⟨rfl, rfl, rfl, fun _ _ => rfl⟩
  simp only at g3 g4 g5 g6
  subst g3
  subst g4
  subst g5
  have g1 : f127_l34 A1 (znn (2 ^ n - 1)) zfu 0 0 (znn (2 ^ n - 1)) 0 = some (r1, r2, r3) := g1
  have g2 : f243_l24 zfu 0 0 (znn (2 ^ n - 1)) 0 B = some (r1, r2, r3, B2) := g2
  have hu3 : u = 0 ∨ u = 1 ∨ u = 2 := by omega
  refine ⟨if u = 0 then r1 else if u = 1 then r2 else r3, A1, B2, ?_, ?_, fill_scr a3, scrB_of (fun o _ q2 _ _ => g6 o q2), fun o ho => a3 o (by omega) (by omega), fun o ho => g6 o (by omega)⟩
  · unfold f127_doers
    rw [show f13_within (znn u) 0 2 = some 1 from e1]
    simp only [Option.bind_some, if_neg h10]
    rw [a1]
    simp only [Option.bind_some]
    rw [all_cls hI1]
    simp only [Option.bind_some]
    rw [g1]
    rcases hu3 with rfl | rfl | rfl <;> rfl
  · unfold f243_doers
    rw [show f149_isIn (znn u) 0 2 = some 1 from e2]
    simp only [Option.bind_some, if_neg h10]
    rw [all_ref hn10 h48]
    simp only [Option.bind_some]
    rw [g2]
    rcases hu3 with rfl | rfl | rfl <;> rfl)
theorem clq_eq {s t p : Nat} (hs : s < 1024) (ht : t < 1024) (hp : p < 10) (hsp : s.testBit p = true) (htp : t.testBit p = false) : (znn s &&& (znn t ^^^ -1) = znn (2 ^ p)) ↔ ((znn s &&& (znn (2 ^ p) ^^^ -1)) &&& (znn t ^^^ -1) = 0) := by
  have pw : 2 ^ p < 1024 := Nat.lt_of_lt_of_le (Nat.pow_lt_pow_right (by decide) hp) (Nat.le_refl _)
  have l1 : s &&& (t ^^^ 4294967295) < 1024 := Nat.lt_of_le_of_lt Nat.and_le_left hs
  have l2 : s &&& (2 ^ p ^^^ 4294967295) < 1024 := Nat.lt_of_le_of_lt Nat.and_le_left hs
  have l3 : (s &&& (2 ^ p ^^^ 4294967295)) &&& (t ^^^ 4294967295) < 1024 := Nat.lt_of_le_of_lt Nat.and_le_left l2
  rw [not_zn, not_zn, not_zn, zl0, zn_eq (by omega) (by omega), zn_eq (by omega) (by omega)]
  have b1 : ∀ i, i < 32 → (s &&& (t ^^^ 4294967295)).testBit i = (s.testBit i && !t.testBit i) := fun i hi => tb_not hi
  have b2 : ∀ i, i < 32 → ((s &&& (2 ^ p ^^^ 4294967295)) &&& (t ^^^ 4294967295)).testBit i = (s.testBit i && !decide (p = i) && !t.testBit i) := fun i hi => by rw [tb_not hi, tb_not hi, Nat.testBit_two_pow]
  constructor
  · intro h
    apply Nat.eq_of_testBit_eq
    intro i
    rw [Nat.zero_testBit]
    by_cases hi : i < 32
    · rw [b2 i hi]
      have := congrArg (fun x => x.testBit i) h
      simp only [b1 i hi, Nat.testBit_two_pow] at this
      by_cases hpi : p = i
      · simp [hpi]
      · simp only [hpi, decide_false] at this ⊢
        revert this
        cases s.testBit i <;> cases t.testBit i <;> simp
    · exact Nat.testBit_lt_two_pow (Nat.lt_of_lt_of_le l3 (Nat.le_trans (by decide : (1024 : Nat) ≤ 2 ^ 32) (Nat.pow_le_pow_right (by decide) (by omega))))
  · intro h
    apply Nat.eq_of_testBit_eq
    intro i
    rw [Nat.testBit_two_pow]
    by_cases hi : i < 32
    · rw [b1 i hi]
      have := congrArg (fun x => x.testBit i) h
      simp only [b2 i hi, Nat.zero_testBit] at this
      by_cases hpi : p = i
      · subst hpi
        simp [hsp, htp]
      · simp only [hpi, decide_false] at this ⊢
        revert this
        cases s.testBit i <;> cases t.testBit i <;> simp
    · have : ¬ p = i := by omega
      rw [Nat.testBit_lt_two_pow (Nat.lt_of_lt_of_le l1 (Nat.le_trans (by decide : (1024 : Nat) ≤ 2 ^ 32) (Nat.pow_le_pow_right (by decide) (by omega))))]
      simp [this]
theorem syncP_clique (x : Int32) : syncP (f136_clique x) (f263_clique x) := by
  rintro A B ⟨n, k, c, b, h0, -⟩
  have hn10 := h0.2.1.1.1
  have h48 := h0.2.1.1.2.1
  have h11 : A 1 11 = znn n := h0.1.1.1.1.trans h48
  have hp := pow_1024 hn10
  rcases within_ex (x := x) (lo := 0) (hi := 1) (by decide) (by decide) with ⟨u, -, hu, rfl, e1, e2⟩ | ⟨e1, e2⟩
  case inr => exact ⟨-1, by unfold f136_clique; rw [show f13_within x 0 1 = some 0 from e1]; rfl, by unfold f263_clique; rw [show f149_isIn x 0 1 = some 0 from e2]; rfl⟩
  have isc : ∀ s, s < 2 ^ n → ∃ v, f137_isClique (znn s) A = some v ∧ f264_isClique (znn s) B = some v := by
    intro s hs
    obtain ⟨v, v', g1, g2, g3⟩ := zpair (fun f (_ : Unit) c => f137_l2 (znn s) A f c) (fun f (_ : Unit) c => f264_l2 (znn s) B f c) n (fun _ _ _ => True) (fun (a d : Int32) => a = d) (fun f i a d hi _ => by
      (try dsimp only)
      have hlt : znn i < znn n := (zn_lt (by omega) (by omega)).mpr hi
      have hz : zin (znn i) 10 = true := (zn_zin (by omega)).mpr (by omega)
      have zz : zi (znn i) = i := zn_zi (by omega)
      obtain ⟨m1, m2, m3, m4, m5, m6, m7⟩ := mom_p h0 hi
      obtain ⟨-, -, ⟨t, ht, et, htp⟩, -⟩ := val_p h0 hi
      rw [f137_l2, f264_l2, h11, h48, if_pos hlt, if_pos hlt, isIn_zn (by omega) (by omega), zbit (by omega) (by omega), show zin (7 + znn i) 2064 = true from zx (d := 7) (by decide) (by omega), show zi (7 + znn i) = 7 + i from zy (d := 7) (by decide) (by omega), hz, zz, m4, et, show zshl 1 (znn i) = znn (2 ^ i) by rw [zl1]; exact zn_shl (by omega), zadd1]
      simp only [Option.bind_some, ↓reduceIte]
      by_cases hb : s.testBit i = true
      · simp only [if_pos hb, if_neg h10, ↓reduceIte]
        have := clq_eq (show s < 1024 by omega) ht (show i < 10 by omega) hb htp
        by_cases hc : znn s &&& (znn t ^^^ -1) = znn (2 ^ i)
        · rw [if_pos hc, if_pos (this.mp hc)]
          exact Or.inl ⟨(), (), trivial, rfl, rfl⟩
        · rw [if_neg hc, if_neg (fun h => hc (this.mpr h))]
          exact Or.inr ⟨0, 0, rfl, rfl, rfl⟩
      · simp only [if_neg hb, if_neg (show ¬ (0 : Int32) = 1 by decide), ↓reduceIte]
        exact Or.inl ⟨(), (), trivial, trivial, trivial⟩) (fun f a d _ => by
      have hng : ¬ znn n < znn n := by rw [zn_lt (by omega) (by omega)]; omega
      refine ⟨1, 1, rfl, ?_, ?_⟩
      · (try dsimp only)
        rw [f137_l2, h11, if_neg hng]
      · (try dsimp only)
        rw [f264_l2, h48, if_neg hng]) zfu 0 () () (by omega) (by rw [zfu_eq]; omega) trivial
    subst g3
    exact ⟨v, g1, g2⟩
  obtain ⟨mf, hmf, hmf2⟩ : ∃ m, zfu = m + 1 ∧ 2000 < m := ⟨99999, rfl, by decide⟩
  obtain ⟨r, r', g1, g2, g3, s, hs, g4⟩ := zpair (fun f (a : Int32) c => f136_l24 A (znn (2 ^ n - 1)) f a c) (fun f (a : Int32) c => f263_l15 B (f + 1) a c) (2 ^ n) (fun i a d => 1 ≤ i ∧ a = d ∧ ∃ s, s < 1024 ∧ a = znn s) (fun a d => a = d ∧ ∃ s, s < 1024 ∧ a = znn s) (fun f i a d hi had => by
    obtain ⟨hi1, rfl, s, hs, rfl⟩ := had
    left
    (try dsimp only)
    have hng : ¬ znn (2 ^ n - 1) < znn i := by rw [zn_lt (by omega) (by omega)]; omega
    have hlt1 : znn i < 1024 := by rw [zl1024, zn_lt (by omega) (by decide)]; omega
    obtain ⟨v, v1, v2⟩ := isc i hi
    rw [f136_l24, f263_l15, all_ref hn10 h48, if_neg hng, if_pos hlt1, bitCount_zn (show i < 1024 by omega), bitCount_zn hs, count_zn (show i < 1024 by omega), count_zn hs, v1, v2, zadd1]
    simp only [Option.bind_some]
    rw [if_neg hng]
    by_cases hc : znn (pop s) < znn (pop i)
    · simp only [if_pos hc]
      by_cases hv : v = 0
      · simp only [if_pos hv]
        exact ⟨znn s, znn s, ⟨by omega, rfl, s, hs, rfl⟩, rfl, rfl⟩
      · simp only [if_neg hv]
        exact ⟨znn i, znn i, ⟨by omega, rfl, i, by omega, rfl⟩, rfl, rfl⟩
    · simp only [if_neg hc]
      exact ⟨znn s, znn s, ⟨by omega, rfl, s, hs, rfl⟩, rfl, rfl⟩) (fun f a d had => by
    obtain ⟨hi1, h⟩ := had
    have hyg : znn (2 ^ n - 1) < znn (2 ^ n) := by rw [zn_lt (by omega) (by omega)]; omega
    refine ⟨a, d, h, ?_, ?_⟩
    · (try dsimp only)
      rw [f136_l24, if_pos hyg]
    · (try dsimp only)
      rw [f263_l15, all_ref hn10 h48]
      simp only [Option.bind_some]
      rw [if_pos hyg]) mf 1 0 0 (by omega) (by omega) ⟨by omega, rfl, 0, by decide, rfl⟩
  subst g3
  subst g4
  have g1 : f136_l24 A (znn (2 ^ n - 1)) mf 0 1 = some (znn s) := g1
  have g2 : f263_l15 B (mf + 1) 0 1 = some (znn s) := g2
  have g1' : f136_l24 A (znn (2 ^ n - 1)) zfu 0 0 = some (znn s) := by
    have e0 : ¬ znn (2 ^ n - 1) < 0 := zn_nneg (by omega)
    rw [hmf, f136_l24, if_neg e0, if_pos (by decide), show f28_bitCount 0 = some (znn (pop 0)) from bitCount_zn (s := 0) (by decide)]
    simp only [Option.bind_some]
    rw [if_neg (by rw [zn_lt (by decide) (by decide)]; omega), show (0 : Int32) + 1 = 1 from rfl]
    exact g1
  unfold f136_clique f263_clique
  rw [show f13_within (znn u) 0 1 = some 1 from e1, show f149_isIn (znn u) 0 1 = some 1 from e2, all_cls h0, hmf]
  rw [hmf] at g1'
  simp only [Option.bind_some, if_neg h10]
  rw [g1', g2]
  simp only [Option.bind_some]
  have hu2 : u = 0 ∨ u = 1 := by omega
  rcases hu2 with rfl | rfl
  · simp only [if_pos (show znn 0 = 0 from rfl)]
    rw [bitCount_zn hs, count_zn hs]
    exact ⟨_, rfl, rfl⟩
  · simp only [if_neg (show ¬ znn 1 = 0 by decide)]
    exact ⟨_, rfl, rfl⟩
