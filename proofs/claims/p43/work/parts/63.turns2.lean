def setOf (n m : Nat) : Nat → Bool := fun i => decide (i < n) && !m.testBit i
def dueOf (w : Nat → Int32) (i : Nat) : Nat := zi (w (70 + i))
theorem pop_or {m p : Nat} (hm : m < 1024) (hp : p < 10) (hb : m.testBit p = false) : pop (m ||| 2 ^ p) = pop m + 1 := by
  have : ∀ p : Fin 10, ∀ s : Fin 1024, s.val.testBit p.val = false → pop (s.val ||| 2 ^ p.val) = pop s.val + 1 := by decide +kernel
  exact this ⟨p, hp⟩ ⟨m, hm⟩ hb
theorem set_or {n m p : Nat} : setOf n (m ||| 2 ^ p) = del (setOf n m) p := by
  funext i
  unfold setOf del
  rw [Nat.testBit_or, Nat.testBit_two_pow]
  by_cases hi : i = p
  · subst hi; simp
  · have : ¬ p = i := fun h => hi h.symm
    simp [hi, this]
theorem due_p {A B : ZI} {n k c b i : Nat} (h0 : Inv5 A B n k c b) (hi : i < n) : dueOf (B 149) i ≤ 999 ∧ A 38 i = znn (dueOf (B 149) i) ∧ B 149 (70 + i) = znn (dueOf (B 149) i) := by
  obtain ⟨-, ⟨q, hq, e⟩, -⟩ := h0.2.1.1.2.2.2.2.2.2.2 i hi
  have e2 : dueOf (B 149) i = q := by unfold dueOf; rw [e, zn_zi (by omega)]
  rw [e2]
  exact ⟨hq, (h0.1.1.2 i hi).2.1.trans e, e⟩
theorem first_cls {A B : ZI} {n k c b y0 m x : Nat} (h0 : Inv5 A B n k c b) (hy0 : y0 ≤ 999) (ey : A 2 5 = znn y0) (hm : m < 1024) (hx : x ≤ 11) : ∃ v, f106_l18 A (znn m) (znn x) zfu (-1) 0 = some v ∧ ((v = -1 ∧ ∀ i, i < n → setOf n m i = true → ¬ y0 + x ≤ dueOf (B 149) i) ∨ ∃ p, p < n ∧ v = znn p ∧ setOf n m p = true ∧ y0 + x ≤ dueOf (B 149) p ∧ ∀ i, i < n → setOf n m i = true → y0 + x ≤ dueOf (B 149) i → dueOf (B 149) p ≤ dueOf (B 149) i) := by
  have hn10 := h0.2.1.1.1
  have h48 := h0.2.1.1.2.1
  have h11 : A 1 11 = znn n := h0.1.1.1.1.trans h48
  have hst : ∀ i, i < n → (setOf n m i = true ↔ ¬ m.testBit i = true) := fun i hi => by
    unfold setOf
    simp [hi]
  obtain ⟨v, g1, g2⟩ := zloop (fun f (a : Int32) c => f106_l18 A (znn m) (znn x) f a c) n (fun j v => (v = -1 ∧ ∀ i, i < j → setOf n m i = true → ¬ y0 + x ≤ dueOf (B 149) i) ∨ ∃ p, p < n ∧ v = znn p ∧ setOf n m p = true ∧ y0 + x ≤ dueOf (B 149) p ∧ ∀ i, i < j → setOf n m i = true → y0 + x ≤ dueOf (B 149) i → dueOf (B 149) p ≤ dueOf (B 149) i) (fun v => (v = -1 ∧ ∀ i, i < n → setOf n m i = true → ¬ y0 + x ≤ dueOf (B 149) i) ∨ ∃ p, p < n ∧ v = znn p ∧ setOf n m p = true ∧ y0 + x ≤ dueOf (B 149) p ∧ ∀ i, i < n → setOf n m i = true → y0 + x ≤ dueOf (B 149) i → dueOf (B 149) p ≤ dueOf (B 149) i) (fun f j v hj hv => by
    left
    (try dsimp only)
    have hz : zin (znn j) 10 = true := (zn_zin (by omega)).mpr (by omega)
    have zz : zi (znn j) = j := zn_zi (by omega)
    obtain ⟨d1, d2, -⟩ := due_p h0 hj
    have hs := hst j hj
    rw [f106_l18, h11, if_pos ((zn_lt (by omega) (by omega)).mpr hj), isIn_zn (by omega) (by omega), Option.bind_some, zadd1, if_pos hz, zz, d2, ey, zn_add]
    by_cases hb : m.testBit j = true
    · rw [if_pos hb, if_neg (by decide)]
      refine ⟨v, ?_, rfl⟩
      have hno : setOf n m j = true → False := fun h => hs.mp h hb
      rcases hv with ⟨h1, h2⟩ | ⟨p, h1, h2, h3, h4, h5⟩
      · exact Or.inl ⟨h1, fun i hi hS => by
          by_cases hij : i = j
          · subst hij; exact absurd hS hno
          · exact h2 i (by omega) hS⟩
      · exact Or.inr ⟨p, h1, h2, h3, h4, fun i hi hS => by
          by_cases hij : i = j
          · subst hij; exact absurd hS hno
          · exact h5 i (by omega) hS⟩
    · rw [if_neg hb, if_pos rfl]
      have hS := hs.mpr hb
      by_cases hl : dueOf (B 149) j < y0 + x
      · rw [if_pos ((zn_lt (by omega) (by omega)).mpr hl)]
        refine ⟨v, ?_, rfl⟩
        rcases hv with ⟨h1, h2⟩ | ⟨p, h1, h2, h3, h4, h5⟩
        · exact Or.inl ⟨h1, fun i hi hS => by
            by_cases hij : i = j
            · subst hij; omega
            · exact h2 i (by omega) hS⟩
        · exact Or.inr ⟨p, h1, h2, h3, h4, fun i hi hS => by
            by_cases hij : i = j
            · subst hij; omega
            · exact h5 i (by omega) hS⟩
      · rw [if_neg (by rw [zn_lt (by omega) (by omega)]; exact hl)]
        rcases hv with ⟨rfl, h2⟩ | ⟨p, h1, rfl, h3, h4, h5⟩
        · rw [if_pos rfl]
          refine ⟨znn j, Or.inr ⟨j, hj, rfl, hS, by omega, fun i hi hS hd => ?_⟩, rfl⟩
          by_cases hij : i = j
          · rw [hij]; exact Nat.le_refl _
          · exact absurd hd (h2 i (by omega) hS)
        · have hzp : zin (znn p) 10 = true := (zn_zin (by omega)).mpr (by omega)
          obtain ⟨p1, p2, -⟩ := due_p h0 h1
          rw [if_neg (zn_ne_neg (by omega)), if_pos hz, if_pos hzp, zn_zi (show p < 2147483648 by omega), p2]
          by_cases hc : dueOf (B 149) j < dueOf (B 149) p
          · rw [if_pos ((zn_lt (by omega) (by omega)).mpr hc)]
            refine ⟨znn j, Or.inr ⟨j, hj, rfl, hS, by omega, fun i hi hS hd => ?_⟩, rfl⟩
            by_cases hij : i = j
            · rw [hij]; exact Nat.le_refl _
            · have := h5 i (by omega) hS hd
              omega
          · rw [if_neg (by rw [zn_lt (by omega) (by omega)]; exact hc)]
            refine ⟨znn p, Or.inr ⟨p, h1, rfl, h3, h4, fun i hi hS hd => ?_⟩, rfl⟩
            by_cases hij : i = j
            · subst hij; omega
            · exact h5 i (by omega) hS hd) (fun f v hv => by
    have hng : ¬ znn n < znn n := by rw [zn_lt (by omega) (by omega)]; omega
    refine ⟨v, hv, ?_⟩
    (try dsimp only)
    rw [f106_l18, h11, if_neg hng]) zfu 0 (-1) (by omega) (by rw [zfu_eq]; omega) (Or.inl ⟨rfl, fun i hi => by omega⟩)
  exact ⟨v, g1, g2⟩
theorem most_cls {A B : ZI} {n k c b y0 m y a : Nat} (h0 : Inv5 A B n k c b) (hy0 : y0 ≤ 999) (ey : A 2 5 = znn y0) (hm : m < 1024) (hya : y ≤ a) (ha : a ≤ 10) : f106_mostTurns (znn y) (znn a) (znn m) A = some (znn (tT n (dueOf (B 149)) (a - y) (y0 + y) (setOf n m))) := by
  have hn10 := h0.2.1.1.1
  obtain ⟨v, g1, m2, hm2, rfl, g2⟩ := zloop (fun f (a' : Int32) c => f106_l6 (znn a) A f a' c) a (fun i v => ∃ m', m' < 1024 ∧ v = znn m' ∧ pop m' + tT n (dueOf (B 149)) (a - i) (y0 + i) (setOf n m') = pop m + tT n (dueOf (B 149)) (a - y) (y0 + y) (setOf n m)) (fun v => ∃ m', m' < 1024 ∧ v = znn m' ∧ pop m' = pop m + tT n (dueOf (B 149)) (a - y) (y0 + y) (setOf n m)) (fun f i v hi hv => by
    obtain ⟨m', hm', rfl, hv⟩ := hv
    left
    (try dsimp only)
    obtain ⟨v, e1, e2⟩ := first_cls (x := i) h0 hy0 ey hm' (by omega)
    rw [f106_l6, if_pos ((zn_lt (by omega) (by omega)).mpr hi), e1, Option.bind_some, zadd1]
    rw [show a - i = (a - (i + 1)) + 1 by omega] at hv
    rcases e2 with ⟨rfl, e2⟩ | ⟨p, hp, rfl, q1, q2, q3⟩
    · rw [if_pos (by decide)]
      rw [tT_none e2] at hv
      exact ⟨znn m', ⟨m', hm', rfl, hv⟩, rfl⟩
    · have hpow : 2 ^ p < 1024 := Nat.lt_of_lt_of_le (Nat.pow_lt_pow_right (by decide) (show p < 10 by omega)) (Nat.le_refl _)
      have hb : m'.testBit p = false := by
        unfold setOf at q1
        simp at q1
        exact q1.2
      rw [if_neg (zn_nneg (by omega)), zlet_e, show zshl 1 (znn p) = znn (2 ^ p) by rw [zl1]; exact zn_shl (by omega), zn_or]
      rw [tT_first hp q1 q2 q3] at hv
      refine ⟨znn (m' ||| 2 ^ p), ⟨m' ||| 2 ^ p, Nat.or_lt_two_pow (n := 10) hm' hpow, rfl, ?_⟩, rfl⟩
      rw [pop_or hm' (by omega) hb, set_or]
      rw [show y0 + (i + 1) = y0 + i + 1 by omega]
      omega) (fun f v hv => by
    obtain ⟨m', hm', rfl, hv⟩ := hv
    rw [Nat.sub_self, show tT n (dueOf (B 149)) 0 (y0 + a) (setOf n m') = 0 from rfl] at hv
    refine ⟨znn m', ⟨m', hm', rfl, hv⟩, ?_⟩
    (try dsimp only)
    rw [f106_l6, if_neg (by rw [zn_lt (by omega) (by omega)]; omega)]) zfu y (znn m) hya (by rw [zfu_eq]; omega) ⟨m, hm, rfl, rfl⟩
  have g1 : f106_l6 (znn a) A zfu (znn m) (znn y) = some (znn m2) := g1
  have := pop_le m2
  unfold f106_mostTurns
  rw [g1, Option.bind_some, bitCount_zn hm2, Option.bind_some, bitCount_zn hm, Option.bind_some, zn_sub (by omega)]
  congr 2
  omega
