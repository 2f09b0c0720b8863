theorem down_ref {A B : ZI} {n k c b y0 a : Nat} (h0 : Inv5 A B n k c b) (hy0 : y0 ≤ 999) (ey : B 149 0 = znn y0) (ha : a ≤ 10) : ∀ (x : Nat) (M : ZI) (f : Nat), x ≤ a → M 149 = B 149 →
    (∀ x', x < x' → x' ≤ a → ∀ s, s < 2 ^ n → M 161 (1024 * x' + s) = znn (tT n (dueOf (B 149)) (a - x') (y0 + x') (bitsOf s))) → ∃ M', f247_l2 (znn a) (f + x + 2) (znn x) M = some M' ∧ (∀ x', x' ≤ a → ∀ s, s < 2 ^ n → M' 161 (1024 * x' + s) = znn (tT n (dueOf (B 149)) (a - x') (y0 + x') (bitsOf s))) ∧ ∀ o, o ≠ 161 → M' o = M o
  | x, M, f, hx, hw, hT => by
    have hp := pow_1024 h0.2.1.1.1
    obtain ⟨M1, e1, e2, e3, e4⟩ := row_ref (M := M) h0 hw hy0 ey hx ha (fun hlt => hT (x + 1) (by omega) (by omega))
    have hrow : ∀ x', x ≤ x' → x' ≤ a → ∀ s, s < 2 ^ n → M1 161 (1024 * x' + s) = znn (tT n (dueOf (B 149)) (a - x') (y0 + x') (bitsOf s)) := by
      intro x' h1 h2 s hs
      by_cases hxx : x' = x
      · subst hxx; exact e2 s hs
      · rw [e4 _ (by omega)]; exact hT x' (by omega) h2 s hs
    have step : f247_l2 (znn a) (f + x + 2) (znn x) M = f247_l2 (znn a) (f + x + 1) (znn x + -1) M1 := by
      rw [f247_l2, if_neg (zn_nneg (by omega)), e1, Option.bind_some]
    cases x with
    | zero =>
      refine ⟨M1, ?_, fun x' h => hrow x' (Nat.zero_le _) h, e3⟩
      rw [step, f247_l2, if_pos (by decide)]
    | succ x =>
      obtain ⟨M2, g1, g2, g3⟩ := down_ref h0 hy0 ey ha x M1 f (by omega) ((e3 149 (by decide)).trans hw) (fun x' h1 h2 => hrow x' (by omega) h2)
      refine ⟨M2, ?_, g2, fun o ho => (g3 o ho).trans (e3 o ho)⟩
      have em : znn (x + 1) + -1 = znn x := by rw [← zadd1]; grind
      rw [step, em, show f + (x + 1) + 1 = f + x + 2 by omega]
      exact g1
theorem lays_ref {A B : ZI} {n k c b y0 a : Nat} (h0 : Inv5 A B n k c b) (hy0 : y0 ≤ 999) (ey : B 149 0 = znn y0) (ha : a ≤ 10) : ∃ M', f247_laysTurns (znn a) B = some M' ∧ (∀ x', x' ≤ a → ∀ s, s < 2 ^ n → M' 161 (1024 * x' + s) = znn (tT n (dueOf (B 149)) (a - x') (y0 + x') (bitsOf s))) ∧ ∀ o, o ≠ 161 → M' o = B o := by
  obtain ⟨mf, hmf⟩ : ∃ m, zfu = m + a + 2 := ⟨zfu - a - 2, by rw [zfu_eq]; omega⟩
  obtain ⟨M1, e1, e2, e3⟩ := down_ref h0 hy0 ey ha a B mf (Nat.le_refl _) rfl (fun x' h1 h2 => by omega)
  refine ⟨M1, ?_, e2, e3⟩
  unfold f247_laysTurns
  rw [hmf, e1]
  rfl
theorem taker_eq {A B M : ZI} {n k c b y0 a y m s : Nat} (h0 : Inv5 A B n k c b) (hy0 : y0 ≤ 999) (eyA : A 2 5 = znn y0) (ey : B 149 0 = znn y0) (ha : a ≤ 10) (hw : M 149 = B 149) (hT : ∀ x', x' ≤ a → ∀ s, s < 2 ^ n → M 161 (1024 * x' + s) = znn (tT n (dueOf (B 149)) (a - x') (y0 + x') (bitsOf s))) (hy : y < a) (hm : m < 1024) (hs : s < 2 ^ n) (hsm : bitsOf s = setOf n m) :
    ∃ v, f107_firstInTurn (znn y) (znn a) (znn m) A = some v ∧ f249_takerIn (znn y) (znn s) M = some v ∧ (v = -1 ∨ ∃ p, p < n ∧ v = znn p) := by
  have hn10 := h0.2.1.1.1
  have hp := pow_1024 hn10
  have h48 : M 149 48 = znn n := by rw [hw]; exact h0.2.1.1.2.1
  have h11 : A 1 11 = znn n := h0.1.1.1.1.trans h0.2.1.1.2.1
  have hv1 := most_cls (m := m) (y := y) h0 hy0 eyA hm (show y ≤ a by omega) ha
  obtain ⟨r, r', g1, g2, rfl, g4⟩ := zpair (fun f (_ : Unit) c => f107_l12 (znn y) (znn a) (znn m) A (znn (tT n (dueOf (B 149)) (a - y) (y0 + y) (setOf n m))) f c) (fun f (_ : Unit) c => f249_l2 (znn y) (znn s) M f c) n (fun _ _ _ => True) (fun (a d : Int32) => a = d ∧ (a = -1 ∨ ∃ p, p < n ∧ a = znn p)) (fun f i x z hi _ => by
    (try dsimp only)
    have hz : zin (znn i) 10 = true := (zn_zin (by omega)).mpr (by omega)
    have zz : zi (znn i) = i := zn_zi (by omega)
    have lt : znn i < znn n := (zn_lt (by omega) (by omega)).mpr hi
    obtain ⟨d1, d2, d3⟩ := due_p h0 hi
    have hbit : s.testBit i = !m.testBit i := by
      have := congrFun hsm i
      unfold bitsOf setOf at this
      rw [this]
      simp [hi]
    rw [f107_l12, f249_l2, h11, h48, if_pos lt, if_pos lt, isIn_zn (by omega) (by omega), zbit (by omega) (by omega), Option.bind_some, zadd1, inTime_ref hw hn10 hi hy0 ey (by omega) d1 d3, if_pos hz, zz, d2, eyA, zn_add, hbit]
    cases hb : m.testBit i with
    | true =>
      left
      exact ⟨(), (), trivial, rfl, rfl⟩
    | false =>
      simp only [Bool.not_false, ↓reduceIte, Option.bind_some]
      rw [if_neg (show ¬ false = true by decide), if_pos rfl]
      by_cases hd : y0 + y ≤ dueOf (B 149) i
      · have hpow : 2 ^ i < 1024 := Nat.lt_of_lt_of_le (Nat.pow_lt_pow_right (by decide) (show i < 10 by omega)) (Nat.le_refl _)
        have l2 : s &&& (2 ^ i ^^^ 4294967295) < 2 ^ n := Nat.lt_of_le_of_lt Nat.and_le_left hs
        have sh : zshl 1 (znn i) = znn (2 ^ i) := by rw [zl1]; exact zn_shl (by omega)
        have ix : (1024 : Int32) * znn (y + 1) + (znn s &&& (znn (2 ^ i) ^^^ -1)) = znn (1024 * (y + 1) + (s &&& (2 ^ i ^^^ 4294967295))) := by
          rw [not_zn, zl1024, zn_mul, zn_add]
        have ix2 : (1024 : Int32) * znn y + znn s = znn (1024 * y + s) := by rw [zl1024, zn_mul, zn_add]
        rw [if_neg (by rw [zn_lt (by omega) (by omega)]; omega), if_pos hd, if_neg (by decide), sh, zn_or, zadd1, most_cls h0 hy0 eyA (Nat.or_lt_two_pow (n := 10) hm hpow) (show y + 1 ≤ a by omega) ha, Option.bind_some, ix, ix2, if_pos ((zn_zin (by omega)).mpr (by omega)), if_pos ((zn_zin (by omega)).mpr (by omega)), zn_zi (by omega), zn_zi (by omega), hT (y + 1) (by omega) _ l2, hT y (by omega) s hs, bits_del (by omega), hsm, set_or]
        by_cases hc : (1 : Int32) + znn (tT n (dueOf (B 149)) (a - (y + 1)) (y0 + (y + 1)) (del (setOf n m) i)) = znn (tT n (dueOf (B 149)) (a - y) (y0 + y) (setOf n m))
        · rw [if_pos hc, if_pos hc]
          exact Or.inr ⟨znn i, znn i, ⟨rfl, Or.inr ⟨i, hi, rfl⟩⟩, rfl, rfl⟩
        · rw [if_neg hc, if_neg hc]
          exact Or.inl ⟨(), (), trivial, rfl, rfl⟩
      · rw [if_pos ((zn_lt (by omega) (by omega)).mpr (by omega)), if_neg hd, if_pos rfl]
        exact Or.inl ⟨(), (), trivial, rfl, rfl⟩) (fun f x z _ => by
    have hng : ¬ znn n < znn n := by rw [zn_lt (by omega) (by omega)]; omega
    refine ⟨-1, -1, ⟨rfl, Or.inl rfl⟩, ?_, ?_⟩
    · (try dsimp only)
      rw [f107_l12, h11, if_neg hng]
    · (try dsimp only)
      rw [f249_l2, h48, if_neg hng]) zfu 0 () () (by omega) (by rw [zfu_eq]; omega) trivial
  have g1 : f107_l12 (znn y) (znn a) (znn m) A (znn (tT n (dueOf (B 149)) (a - y) (y0 + y) (setOf n m))) zfu 0 = some r := g1
  have g2 : f249_l2 (znn y) (znn s) M zfu 0 = some r := g2
  refine ⟨r, ?_, ?_, g4⟩
  · unfold f107_firstInTurn
    rw [hv1, Option.bind_some]
    exact g1
  · unfold f249_takerIn
    exact g2
theorem sync_turnsOf (x z : Int32) : sync (fun M => (f105_turnsOf x z M).bind fun v => some (v, M)) (f246_turnsOf x z) := sync_q (by
  intro A B n k c b h0
  have hn10 := h0.2.1.1.1
  have h48 := h0.2.1.1.2.1
  have hp := pow_1024 hn10
  obtain ⟨y0, hy0, ey, -⟩ := h0.2.2.2.1.2.1
  have eyA : A 2 5 = znn y0 := h0.2.2.1.1.2.1.trans ey
  rcases within_ex (x := x) (lo := 1) (hi := 10) (by decide) (by decide) with ⟨a, ha1, ha, rfl, e1, e2⟩ | ⟨e1, e2⟩
  case inr => exact ⟨-2, A, B, by (try dsimp only); unfold f105_turnsOf; rw [show f13_within x 1 10 = some 0 from e1]; rfl, by unfold f246_turnsOf; rw [show f149_isIn x 1 10 = some 0 from e2]; rfl, scrA_refl A, scrB_refl B, fun _ _ => rfl, fun _ _ => rfl⟩
  obtain ⟨M, l1, l2, l3⟩ := lays_ref h0 hy0 ey ha
  have hw : M 149 = B 149 := l3 149 (by decide)
  have h48M : M 149 48 = znn n := by rw [hw]; exact h48
  have sM : scrB B M := scrB_of (fun o _ _ _ q4 => l3 o q4)
  have oM : ∀ o, o < 148 → M o = B o := fun o ho => l3 o (by omega)
  have hall : bitsOf (2 ^ n - 1) = setOf n 0 := by
    funext i
    unfold bitsOf setOf
    rw [Nat.testBit_two_pow_sub_one]
    simp
  by_cases hz : z = 0
  · subst hz
    have hm := most_cls (m := 0) (y := 0) h0 hy0 eyA (by decide) (Nat.zero_le a) ha
    have ht := l2 0 (Nat.zero_le _) (2 ^ n - 1) (by omega)
    rw [hall] at ht
    refine ⟨znn (tT n (dueOf (B 149)) (a - 0) (y0 + 0) (setOf n 0)), A, M, ?_, ?_, scrA_refl A, sM, fun _ _ => rfl, oM⟩
    · (try dsimp only)
      unfold f105_turnsOf
      rw [show f13_within (znn a) 1 10 = some 1 from e1, Option.bind_some, if_neg (by decide), if_pos rfl, show f106_mostTurns 0 (znn a) 0 A = _ from hm]
      rfl
    · unfold f246_turnsOf
      rw [show f149_isIn (znn a) 1 10 = some 1 from e2, Option.bind_some, if_neg (by decide), zlet_e, if_pos rfl, l1, Option.bind_some, if_pos rfl, all_ref hn10 h48M, Option.bind_some, if_pos ((zn_zin (by omega)).mpr (by omega)), zn_zi (by omega)]
      rw [show 1024 * 0 + (2 ^ n - 1) = 2 ^ n - 1 by omega] at ht
      rw [ht]
  have hi1 : (10 : Int32) + znn a - 1 = znn (9 + a) := by rw [zl10, zn_add, zl1, zn_sub (by omega)]; congr 1; omega
  have hi2 : (9 : Int32) + znn a = znn (9 + a) := by rw [zl9, zn_add]
  rcases within_ex (x := z) (lo := 10) (hi := 9 + a) (by decide) (by omega) with ⟨u, hu1, hu, rfl, e3, e4⟩ | ⟨e3, e4⟩
  case inr => exact ⟨-2, A, B, by (try dsimp only); unfold f105_turnsOf; rw [show f13_within (znn a) 1 10 = some 1 from e1, Option.bind_some, if_neg (by decide), if_neg hz, hi1, show f13_within z 10 (znn (9 + a)) = some 0 from e3]; rfl, by unfold f246_turnsOf; rw [show f149_isIn (znn a) 1 10 = some 1 from e2, Option.bind_some, if_neg (by decide), zlet_e, if_neg hz, hi2, show f149_isIn z 10 (znn (9 + a)) = some 0 from e4]; rfl, scrA_refl A, scrB_refl B, fun _ _ => rfl, fun _ _ => rfl⟩
  obtain ⟨e, rfl⟩ : ∃ e, u = e + 10 := ⟨u - 10, by omega⟩
  have su : znn (e + 10) - 10 = znn e := by rw [zl10, zn_sub (by omega)]; congr 1
  obtain ⟨r, r', g1, g2, rfl⟩ := zpair (fun f (q : Int32 × Int32) c => f105_l51 (znn a) (znn (e + 10)) A f q.1 q.2 c) (fun f (q : Int32 × Int32) c => f246_l60 (znn (e + 10)) M f q.1 q.2 c) (e + 1) (fun _ q q' => q.1 = q'.2 ∧ ∃ m s, q.2 = znn m ∧ q'.1 = znn s ∧ m < 1024 ∧ s < 2 ^ n ∧ bitsOf s = setOf n m) (fun q q' => q = q') (fun f i q q' hi hq => by
    obtain ⟨x3, x4⟩ := q
    obtain ⟨x5, x6⟩ := q'
    obtain ⟨rfl, m, s, rfl, rfl, hm, hs, hsm⟩ := hq
    left
    (try dsimp only)
    have hng : ¬ znn e < znn i := by rw [zn_lt (by omega) (by omega)]; omega
    obtain ⟨v, v1, v2, v3⟩ := taker_eq h0 hy0 eyA ey ha hw l2 (show i < a by omega) hm hs hsm
    rw [f105_l51, f246_l60, su, if_neg hng, if_neg hng, v1, v2, Option.bind_some, Option.bind_some, zadd1]
    simp only [zlet_e]
    rcases v3 with rfl | ⟨p, hp, rfl⟩
    · rw [if_pos (show (-1 : Int32) < 0 by decide), if_pos rfl, zn_and, Nat.and_self]
      exact ⟨(-1, znn m), (znn s, -1), ⟨rfl, m, s, rfl, rfl, hm, hs, hsm⟩, rfl, rfl⟩
    · have hpow : 2 ^ p < 1024 := Nat.lt_of_lt_of_le (Nat.pow_lt_pow_right (by decide) (show p < 10 by omega)) (Nat.le_refl _)
      rw [if_neg (zn_nneg (by omega)), if_neg (zn_ne_neg (by omega)), show zshl 1 (znn p) = znn (2 ^ p) by rw [zl1]; exact zn_shl (by omega), zn_or, not_zn]
      refine ⟨(znn p, znn (m ||| 2 ^ p)), (znn (s &&& (2 ^ p ^^^ 4294967295)), znn p), ⟨rfl, _, _, rfl, rfl, Nat.or_lt_two_pow (n := 10) hm hpow, Nat.lt_of_le_of_lt Nat.and_le_left hs, ?_⟩, rfl, rfl⟩
      rw [bits_del (by omega), hsm, set_or]) (fun f q q' hq => by
    have hlt : znn e < znn (e + 1) := by rw [zn_lt (by omega) (by omega)]; omega
    refine ⟨q.1, q'.2, hq.1, ?_, ?_⟩
    · (try dsimp only)
      rw [f105_l51, su, if_pos hlt]
    · (try dsimp only)
      rw [f246_l60, su, if_pos hlt]) zfu 0 (-1, 0) (znn (2 ^ n - 1), -1) (by omega) (by rw [zfu_eq]; omega) ⟨rfl, 0, 2 ^ n - 1, rfl, rfl, by decide, by omega, hall⟩
  have g1 : f105_l51 (znn a) (znn (e + 10)) A zfu (-1) 0 0 = some r := g1
  have g2 : f246_l60 (znn (e + 10)) M zfu (znn (2 ^ n - 1)) (-1) 0 = some r := g2
  refine ⟨r, A, M, ?_, ?_, scrA_refl A, sM, fun _ _ => rfl, oM⟩
  · (try dsimp only)
    unfold f105_turnsOf
    rw [show f13_within (znn a) 1 10 = some 1 from e1, Option.bind_some, if_neg (by decide), if_neg hz, hi1, show f13_within (znn (e + 10)) 10 (znn (9 + a)) = some 1 from e3, Option.bind_some, if_neg (by decide), g1]
    rfl
  · unfold f246_turnsOf
    rw [show f149_isIn (znn a) 1 10 = some 1 from e2, Option.bind_some, if_neg (by decide), zlet_e, if_neg hz, hi2, show f149_isIn (znn (e + 10)) 10 (znn (9 + a)) = some 1 from e4, Option.bind_some, if_neg (by decide), l1, Option.bind_some, if_neg hz, all_ref hn10 h48M, Option.bind_some, g2]
    rfl)
