-- ===== tie, sit, undo, years, given, soonest =====
theorem zpair2 {α γ β δ : Type} (F : Nat → α → Int32 → Option β) (G : Nat → γ → Int32 → Option δ) (N : Nat) (P : Nat → α → γ → Prop) (R : β → δ → Prop)
    (h1 : ∀ n i a c, i < N → 1 ≤ n → P i a c → (∃ a' c', P (i + 1) a' c' ∧ F (n + 1) a (znn i) = F n a' (znn (i + 1)) ∧ G (n + 1) c (znn i) = G n c' (znn (i + 1))) ∨ (∃ b d, R b d ∧ F (n + 1) a (znn i) = some b ∧ G (n + 1) c (znn i) = some d))
    (h2 : ∀ n a c, P N a c → ∃ b d, R b d ∧ F (n + 1) a (znn N) = some b ∧ G (n + 1) c (znn N) = some d) :
    ∀ (fuel i : Nat) (a : α) (c : γ), i ≤ N → N - i < fuel → P i a c → ∃ b d, F fuel a (znn i) = some b ∧ G fuel c (znn i) = some d ∧ R b d := by
  intro fuel
  induction fuel with
  | zero => intro i a c _ h _; omega
  | succ n ih =>
    intro i a c hi hf hP
    by_cases h : i < N
    · rcases h1 n i a c h (by omega) hP with ⟨a', c', hP', e1, e2⟩ | ⟨b, d, hR, e1, e2⟩
      · rw [e1, e2]
        exact ih (i + 1) a' c' (by omega) (by omega) hP'
      · exact ⟨b, d, e1, e2, hR⟩
    · obtain rfl : i = N := by omega
      obtain ⟨b, d, hR, e1, e2⟩ := h2 n a c hP
      exact ⟨b, d, e1, e2, hR⟩
theorem keep_Inv {A B A' B' : ZI} {n k c b : Nat} (h0 : Inv5 A B n k c b) (h7 : imgIs A B) (h8 : tapeIs A B) (hA : keepA A A') (hB : keepB B B') : Inv5 A' B' n k c b ∧ imgIs A' B' ∧ tapeIs A' B' := by
  obtain ⟨h1, h2, h3, h4, h5⟩ := h0
  have e149 : B' 149 = B 149 := hB.1 149 (by decide) (by decide)
  refine ⟨?_, imgIs_of h7 ⟨hA.2 2 (by decide) (by decide), fun o q1 q2 => hA.1 o (by omega) (by omega)⟩ ⟨hB.2 5 (by decide), hB.1 150 (by decide) (by decide)⟩, tapeIs_of h8 ⟨by rw [hA.1 119 (by decide) (by omega)], by rw [hA.1 119 (by decide) (by omega)], by rw [hA.1 119 (by decide) (by omega)], hA.1 120 (by decide) (by omega)⟩ ⟨hB.2 19 (by decide), hB.2 26 (by decide), hB.2 28 (by decide), hB.1 158 (by decide) (by decide)⟩⟩
  unfold Inv5
  rw [e149]
  exact ⟨fixIs_of h1 (fun o ho => hA.1 o (by omega) (by omega)), h2, momIs_of h3 (fun o q1 q2 => hA.1 o (by omega) (by omega)), h4, bookIs_of h5 (fun o q1 q2 => hA.1 o (by omega) (by omega))⟩
theorem sync_sit (x : Int32) : sync (f22_sit x) (f201_sit x) := by
  rintro A B ⟨n, k, c, b, h0, h6, h7, h8⟩
  have hI : Inv2 A B := ⟨n, k, c, b, h0, h6, h7, h8⟩
  have hn10 := h0.2.1.1.1
  rcases within_ex (x := x) (lo := 1) (hi := 24) (by decide) (by decide) with ⟨u, hu1, hu, rfl, e1, e2⟩ | ⟨e1, e2⟩
  case inr => exact sync_same (v := -1) hI (by unfold f22_sit; rw [show f13_within x 1 24 = some 0 from e1]; rfl) (by unfold f201_sit; rw [show f149_isIn x 1 24 = some 0 from e2]; rfl)
  obtain ⟨A1, B1, k1, k2, k3, k4, k5⟩ := keep_eq h6 hn10 h0.2.2.1 h0.2.2.2.1
  obtain ⟨⟨h1, h2, h3, h4, h5⟩, i7, i8⟩ := keep_Inv h0 h7 h8 k4 k5
  have e14 : A1 2 4 = B1 149 1 := h3.1.1
  obtain ⟨e, he, ee⟩ := h4.1
  obtain ⟨e', he', ee'⟩ := zmin_range (x := B1 149 1 + znn u) (k := e + u) (m := 24) (by rw [ee, zn_add]) (by omega) (by decide)
  have ee' : zmin 24 (B1 149 1 + znn u) = znn e' := ee'
  have hrow : ∀ i, (zs B1 149 1 (znn e')) 149 i = if i = 1 then znn e' else B1 149 i := fun i => zs_sm _ _ _ _ _
  have hlow : ∀ i, i ≠ 1 → (zs B1 149 1 (znn e')) 149 i = B1 149 i := fun i hi => by rw [hrow, if_neg hi]
  have hAo : ∀ r, r ≠ 2 → (zs A1 2 4 (znn e')) r = A1 r := fun r a => zs_df a
  have hF : rowF (B1 149) ((zs B1 149 1 (znn e')) 149) := fun i a _ => hlow i (by omega)
  refine ⟨znn e', zs A1 2 4 (znn e'), zs B1 149 1 (znn e'), ?_, ?_, ⟨n, k, c, b, ⟨fixIs_row hF h2 (fixIs_of h1 (fun r hr => hAo r (by omega))), fixOk_row hF h2, ?_, ?_, bookIs_row (bookIs_of h5 (fun r q1 q2 => hAo r (by omega))) (fun i q1 q2 => hlow i (by omega))⟩, pastIs_of k3 ⟨by rw [hAo 0 (by decide)], by rw [hAo 0 (by decide)], fun o q1 q2 => hAo o (by omega)⟩ ⟨by rw [zs_df (by decide)], zs_df (by decide)⟩, imgIs_of i7 ⟨by rw [hAo 0 (by decide)], fun o q1 q2 => hAo o (by omega)⟩ ⟨by rw [zs_df (by decide)], zs_df (by decide)⟩, tapeIs_of i8 ⟨by rw [hAo 119 (by decide)], by rw [hAo 119 (by decide)], by rw [hAo 119 (by decide)], hAo 120 (by decide)⟩ ⟨by rw [zs_df (by decide)], by rw [zs_df (by decide)], by rw [zs_df (by decide)], zs_df (by decide)⟩⟩, fun o ho => (hAo o (by omega)).trans (k4.1 o (by omega) (by omega)), fun o ho => (zs_df (by omega)).trans (k5.1 o (by omega) (by omega))⟩
  · unfold f22_sit f23_wearBy
    rw [show f13_within (znn u) 1 24 = some 1 from e1]
    simp only [Option.bind_some, zlet]
    rw [if_neg (by decide), k1]
    simp only [Option.bind_some]
    rw [e14, ee', zs_sm, if_pos rfl]
  · unfold f201_sit
    rw [show f149_isIn (znn u) 1 24 = some 1 from e2]
    simp only [Option.bind_some, zlet, les_eq]
    rw [if_neg (by decide), k2]
    simp only [Option.bind_some]
    rw [ee', zs_sm, if_pos rfl]
  · obtain ⟨⟨m1, m2, m3, m4, m5, m6, m7⟩, m8⟩ := h3
    refine ⟨?_, fun p hp => ?_⟩
    · simp only [zs_sm, Nat.reduceEqDiff, ↓reduceIte]
      exact ⟨trivial, m2, m3, m4, m5, m6, m7⟩
    · rw [hAo _ (by omega), hAo _ (by omega), hAo _ (by omega), hAo _ (by omega), hlow _ (by omega), hlow _ (by omega), hlow _ (by omega), hlow _ (by omega)]
      exact m8 p hp
  · obtain ⟨p1, ⟨y, p2, p3, p4⟩, p5, p6, p7⟩ := h4
    exact ⟨⟨e', he', by rw [hrow, if_pos rfl]⟩, ⟨y, p2, by rw [hlow _ (by decide)]; exact p3, fun p hp => by rw [hlow _ (by omega)]; exact p4 p hp⟩, by rw [hlow _ (by decide)]; exact p5, by rw [hlow _ (by decide)]; exact p6, fun p hp => by rw [hlow _ (by omega), hlow _ (by omega)]; exact p7 p hp⟩
theorem sync_tie (x y z : Int32) : sync (f18_tie x y z) (f199_tie x y z) := by
  rintro A B ⟨n, k, c, b, h0, h6, h7, h8⟩
  have hI : Inv2 A B := ⟨n, k, c, b, h0, h6, h7, h8⟩
  have hn10 := h0.2.1.1.1
  rcases has_eq h0 x with ⟨p, hp, rfl, e1, e2⟩ | ⟨e1, e2⟩
  case inr => exact sync_same (v := 0) hI (by unfold f18_tie; rw [e1]; rfl) (by unfold f199_tie; rw [e2]; rfl)
  rcases has_eq h0 y with ⟨q, hq, rfl, e3, e4⟩ | ⟨e3, e4⟩
  case inr => exact sync_same (v := 0) hI (by unfold f18_tie; rw [e1, e3]; rfl) (by unfold f199_tie; rw [e2, e4]; rfl)
  have hz : ∀ r, r < n → zin (znn r) 10 = true := fun r hr => (zn_zin (by omega)).mpr (by omega)
  have zz : ∀ r, r < n → zi (znn r) = r := fun r hr => zn_zi (by omega)
  have hz7 : ∀ r, r < n → zin (7 + znn r) 2064 = true := fun r hr => by rw [zl7, zn_add]; exact (zn_zin (by omega)).mpr (by omega)
  have zz7 : ∀ r, r < n → zi (7 + znn r) = 7 + r := fun r hr => by rw [zl7, zn_add, zn_zi (by omega)]
  by_cases hpq : p = q
  · refine sync_same (v := 0) hI ?_ ?_
    · unfold f18_tie; rw [e1, e3]; simp only [Option.bind_some]; rw [if_neg (by decide), if_neg (by decide), if_pos (by rw [hpq])]
    · unfold f199_tie; rw [e2, e4]; simp only [Option.bind_some]; rw [if_neg (by decide), if_neg (by decide), if_pos (by rw [hpq])]
  have hpq' : ¬ znn p = znn q := by rw [zn_eq (by omega) (by omega)]; exact hpq
  obtain ⟨-, s, hs, es, hsp⟩ := h0.2.2.2.1.2.2.2.2 p hp
  have a6 : A 6 p = znn s := (h0.2.2.1.2 p hp).2.2.2.trans es
  have cls : f18_tie (znn p) (znn q) z A = (if (if s.testBit q = true then (1 : Int32) else 0) = z then some ((0 : Int32), A) else (f20_keepPast A).bind fun M4 => zlet (zs M4 6 p ((M4 6 p) ^^^ (zshl (1 : Int32) (znn q)))) fun (M5 : ZI) => zlet (zs M5 6 q ((M5 6 q) ^^^ (zshl (1 : Int32) (znn p)))) fun (M6 : ZI) => some ((1 : Int32), M6)) := by
    unfold f18_tie
    rw [e1, e3]
    simp only [Option.bind_some, if_neg hpq', hz p hp, hz q hq, zz p hp, zz q hq, ↓reduceIte, zlet]
    rw [if_neg (by decide), if_neg (by decide), a6, isIn_zn (by omega) (by omega)]
    rfl
  have ref : f199_tie (znn p) (znn q) z B = (if (if s.testBit q = true then (1 : Int32) else 0) = z then some ((0 : Int32), B) else (f200_keeps B).bind fun M4 => zlet (zs M4 149 (7 + p) ((M4 149 (7 + p)) ^^^ (zshl (1 : Int32) (znn q)))) fun (M5 : ZI) => zlet (zs M5 149 (7 + q) ((M5 149 (7 + q)) ^^^ (zshl (1 : Int32) (znn p)))) fun (M6 : ZI) => some ((1 : Int32), M6)) := by
    unfold f199_tie
    rw [e2, e4]
    simp only [Option.bind_some, if_neg hpq', hz7 p hp, hz7 q hq, zz7 p hp, zz7 q hq, ↓reduceIte, zlet]
    rw [if_neg (by decide), if_neg (by decide), es, zbit (by omega) (by omega)]
    have : ((if (if s.testBit q = true then (1 : Int32) else 0) = 1 then some (1 : Int32) else some 0) : Option Int32) = some (if s.testBit q = true then 1 else 0) := by
      by_cases h : s.testBit q = true
      · rw [if_pos h]; rfl
      · rw [if_neg h]; rfl
    rw [this]
    rfl
  by_cases hc : (if s.testBit q = true then (1 : Int32) else 0) = z
  · exact sync_same (v := 0) hI (by rw [cls, if_pos hc]) (by rw [ref, if_pos hc])
  obtain ⟨A1, B1, k1, k2, k3, k4, k5⟩ := keep_eq h6 hn10 h0.2.2.1 h0.2.2.2.1
  obtain ⟨⟨h1, h2, h3, h4, h5⟩, i7, i8⟩ := keep_Inv h0 h7 h8 k4 k5
  rw [if_neg hc, k1] at cls
  rw [if_neg hc, k2] at ref
  simp only [Option.bind_some, zlet] at cls ref
  have e149 : B1 149 = B 149 := k5.1 149 (by decide) (by decide)
  obtain ⟨-, t, ht, et, htq⟩ := h0.2.2.2.1.2.2.2.2 q hq
  have sh : ∀ r, r < n → zshl 1 (znn r) = znn (2 ^ r) := fun r hr => by rw [zl1]; exact zn_shl (by omega)
  have x6p : A1 6 p ^^^ zshl 1 (znn q) = znn (s ^^^ 2 ^ q) := by rw [k4.1 6 (by decide) (by omega), a6, sh q hq, zn_xor]
  have x6q : (zs A1 6 p (A1 6 p ^^^ zshl 1 (znn q))) 6 q ^^^ zshl 1 (znn p) = znn (t ^^^ 2 ^ p) := by
    rw [zs_sm, if_neg (show ¬ q = p from fun h => hpq h.symm), k4.1 6 (by decide) (by omega), show A 6 q = znn t from (h0.2.2.1.2 q hq).2.2.2.trans et, sh p hp, zn_xor]
  have y6p : B1 149 (7 + p) ^^^ zshl 1 (znn q) = znn (s ^^^ 2 ^ q) := by rw [e149, es, sh q hq, zn_xor]
  have y6q : (zs B1 149 (7 + p) (B1 149 (7 + p) ^^^ zshl 1 (znn q))) 149 (7 + q) ^^^ zshl 1 (znn p) = znn (t ^^^ 2 ^ p) := by
    rw [zs_sm, if_neg (show ¬ 7 + q = 7 + p by omega), e149, et, sh p hp, zn_xor]
  rw [x6q, x6p] at cls
  rw [y6q, y6p] at ref
  have hA6 : ∀ i, (zs (zs A1 6 p (znn (s ^^^ 2 ^ q))) 6 q (znn (t ^^^ 2 ^ p))) 6 i = if i = q then znn (t ^^^ 2 ^ p) else if i = p then znn (s ^^^ 2 ^ q) else A1 6 i := fun i => by rw [zs_sm, zs_sm]
  have hAo : ∀ r, r ≠ 6 → (zs (zs A1 6 p (znn (s ^^^ 2 ^ q))) 6 q (znn (t ^^^ 2 ^ p))) r = A1 r := fun r hr => by rw [zs_df hr, zs_df hr]
  have hrow : ∀ i, (zs (zs B1 149 (7 + p) (znn (s ^^^ 2 ^ q))) 149 (7 + q) (znn (t ^^^ 2 ^ p))) 149 i = if i = 7 + q then znn (t ^^^ 2 ^ p) else if i = 7 + p then znn (s ^^^ 2 ^ q) else B1 149 i := fun i => by rw [zs_sm, zs_sm]
  have hBo : ∀ r, r ≠ 149 → (zs (zs B1 149 (7 + p) (znn (s ^^^ 2 ^ q))) 149 (7 + q) (znn (t ^^^ 2 ^ p))) r = B1 r := fun r hr => by rw [zs_df hr, zs_df hr]
  have hlow : ∀ i, i ≠ 7 + p → i ≠ 7 + q → (zs (zs B1 149 (7 + p) (znn (s ^^^ 2 ^ q))) 149 (7 + q) (znn (t ^^^ 2 ^ p))) 149 i = B1 149 i := fun i a b => by rw [hrow, if_neg b, if_neg a]
  refine ⟨1, _, _, cls, ref, ?_, fun o ho => (hAo o (by omega)).trans (k4.1 o (by omega) (by omega)), fun o ho => (hBo o (by omega)).trans (k5.1 o (by omega) (by omega))⟩
  generalize zs (zs A1 6 p (znn (s ^^^ 2 ^ q))) 6 q (znn (t ^^^ 2 ^ p)) = A2 at *
  generalize zs (zs B1 149 (7 + p) (znn (s ^^^ 2 ^ q))) 149 (7 + q) (znn (t ^^^ 2 ^ p)) = B2 at *
  have hF : rowF (B1 149) (B2 149) := fun i a _ => hlow i (by omega) (by omega)
  have a119 : A2 119 = A1 119 := hAo 119 (by decide)
  have pw : ∀ r, r < n → 2 ^ r < 1024 := fun r hr => Nat.lt_of_lt_of_le (Nat.pow_lt_pow_right (by decide) (show r < 10 by omega)) (Nat.le_refl _)
  refine ⟨n, k, c, b, ⟨fixIs_row hF h2 (fixIs_of h1 (fun r hr => hAo r (by omega))), fixOk_row hF h2, ?_, ?_, bookIs_row (bookIs_of h5 (fun r q1 q2 => hAo r (by omega))) (fun i q1 q2 => hlow i (by omega) (by omega))⟩, pastIs_of k3 ⟨by rw [hAo 0 (by decide)], by rw [hAo 0 (by decide)], fun o q1 q2 => hAo o (by omega)⟩ ⟨by rw [hBo 148 (by decide)], hBo 151 (by decide)⟩, imgIs_of i7 ⟨by rw [hAo 0 (by decide)], fun o q1 q2 => hAo o (by omega)⟩ ⟨by rw [hBo 148 (by decide)], hBo 150 (by decide)⟩, tapeIs_of i8 ⟨by rw [a119], by rw [a119], by rw [a119], hAo 120 (by decide)⟩ ⟨by rw [hBo 148 (by decide)], by rw [hBo 148 (by decide)], by rw [hBo 148 (by decide)], hBo 158 (by decide)⟩⟩
  · obtain ⟨m0, m8⟩ := h3
    refine ⟨by rw [hAo 2 (by decide), hlow _ (by omega) (by omega), hlow _ (by omega) (by omega), hlow _ (by omega) (by omega), hlow _ (by omega) (by omega), hlow _ (by omega) (by omega), hlow _ (by omega) (by omega), hlow _ (by omega) (by omega)]; exact m0, fun r hr => ?_⟩
    obtain ⟨g1, g2, g3, g4⟩ := m8 r hr
    rw [hAo (2 + 1) (by decide), hAo (2 + 2) (by decide), hAo (2 + 3) (by decide), hlow (17 + r) (by omega) (by omega), hlow (27 + r) (by omega) (by omega), hlow (37 + r) (by omega) (by omega), show (2 : Nat) + 4 = 6 from rfl, hA6, hrow]
    refine ⟨g1, g2, g3, ?_⟩
    by_cases hrq : r = q
    · rw [if_pos hrq, if_pos (show 7 + r = 7 + q by omega)]
    · rw [if_neg hrq, if_neg (show ¬ 7 + r = 7 + q by omega)]
      by_cases hrp : r = p
      · rw [if_pos hrp, if_pos (show 7 + r = 7 + p by omega)]
      · rw [if_neg hrp, if_neg (show ¬ 7 + r = 7 + p by omega)]; exact g4
  · obtain ⟨p1, ⟨yy, p2, p3, p4⟩, p5, p6, p7⟩ := h4
    refine ⟨by rw [hlow _ (by omega) (by omega)]; exact p1, ⟨yy, p2, by rw [hlow _ (by omega) (by omega)]; exact p3, fun r hr => by rw [hlow _ (by omega) (by omega)]; exact p4 r hr⟩, by rw [hlow _ (by omega) (by omega)]; exact p5, by rw [hlow _ (by omega) (by omega)]; exact p6, fun r hr => ?_⟩
    rw [hlow (17 + r) (by omega) (by omega), hrow]
    refine ⟨(p7 r hr).1, ?_⟩
    by_cases hrq : 7 + r = 7 + q
    · obtain rfl : r = q := by omega
      rw [if_pos hrq]
      refine ⟨t ^^^ 2 ^ p, Nat.xor_lt_two_pow (n := 10) ht (pw p hp), rfl, ?_⟩
      rw [Nat.testBit_xor, Nat.testBit_two_pow, htq]
      simp [hpq]
    · rw [if_neg hrq]
      by_cases hrp : 7 + r = 7 + p
      · obtain rfl : r = p := by omega
        rw [if_pos hrp]
        refine ⟨s ^^^ 2 ^ q, Nat.xor_lt_two_pow (n := 10) hs (pw q hq), rfl, ?_⟩
        rw [Nat.testBit_xor, Nat.testBit_two_pow, hsp]
        simp [Ne.symm hpq]
      · rw [if_neg hrp]
        exact (p7 r hr).2
/-- the reference goes back to the m-th row -/
theorem back_ref {B : ZI} {m : Nat} (hm : m < 6) (h4 : B 148 4 = znn m) : ∃ B', f198_l21 zfu 0 B = some B' ∧ (∀ o, o ≠ 149 → B' o = B o) ∧ ∀ j, B' 149 j = if j < 48 then B 151 (48 * m + j) else B 149 j := by
  obtain ⟨b, h1, h2, h3⟩ := zloop (fun fu (b : ZI) c => f198_l21 fu c b) 48 (fun i b => (∀ o, o ≠ 149 → b o = B o) ∧ ∀ j, b 149 j = if j < i then B 151 (48 * m + j) else B 149 j) (fun b => (∀ o, o ≠ 149 → b o = B o) ∧ ∀ j, b 149 j = if j < 48 then B 151 (48 * m + j) else B 149 j) (fun fu i b hi hb => by
    obtain ⟨g1, g2⟩ := hb
    left
    (try dsimp only)
    rw [f198_l21, if_pos (show znn i < 48 by rw [zl48, zn_lt (by omega) (by decide)]; exact hi), g1 148 (by decide), h4, zl48, zn_mul, zn_add, if_pos ((zn_zin (by omega)).mpr (by omega)), if_pos ((zn_zin (by omega)).mpr (by omega)), zn_zi (by omega), zn_zi (by omega), zadd1, g1 151 (by decide)]
    simp only [zlet]
    refine ⟨_, ⟨fun o ho => ?_, fun j => ?_⟩, rfl⟩
    · rw [zs_df ho]; exact g1 o ho
    · rw [zs_sm, g2]
      by_cases hji : j = i
      · rw [if_pos hji, if_pos (by omega), hji]
      · rw [if_neg hji]
        by_cases h : j < i
        · rw [if_pos h, if_pos (by omega)]
        · rw [if_neg h, if_neg (by omega)]) (fun fu b hb => by
    refine ⟨b, hb, ?_⟩
    (try dsimp only)
    rw [f198_l21, if_neg (by decide)]) zfu 0 B (by omega) (by rw [zfu_eq]; omega) ⟨fun _ _ => rfl, fun j => by rw [if_neg (by omega)]⟩
  exact ⟨b, h1, h2, h3⟩
theorem sync_undo : sync f138_undo f198_undo := by
  rintro A B ⟨n, k, c, b, h0, h6, h7, h8⟩
  have hI : Inv2 A B := ⟨n, k, c, b, h0, h6, h7, h8⟩
  obtain ⟨h1, h2, h3, h4, h5⟩ := h0
  have hn10 := h2.1.1
  obtain ⟨o, m, ho, hm6, g1, g2, g3, g4⟩ := id h6
  by_cases hm0 : m = 0
  · subst hm0
    exact sync_same (v := 0) hI (by unfold f138_undo; rw [g2]; rfl) (by unfold f198_undo; rw [g3]; rfl)
  obtain ⟨m, rfl⟩ : ∃ m', m = m' + 1 := ⟨m - 1, by omega⟩
  have es : znn (m + 1) - 1 = znn m := zn_sub (i := m + 1) (j := 1) (by omega)
  have hne : ¬ znn (m + 1) = 0 := by rw [zl0, zn_eq (by omega) (by decide)]; omega
  have hmod := Nat.mod_lt (o + m) (show 0 < 6 by decide)
  obtain ⟨q1, q2⟩ := g4 m (by omega)
  obtain ⟨A2, a1, a2, a3⟩ := copy_mom (A := zs A 0 5 (znn m)) (t := 2) (momIs_of q1 (fun r r1 r2 => zs_df (by omega))) hn10 (by omega)
  obtain ⟨B2, b1, b2, b3⟩ := back_ref (B := zs B 148 4 (znn m)) (m := m) (by omega) (by rw [zs_sm, if_pos rfl])
  have hA0 : ∀ i, A2 0 i = if i = 5 then znn m else A 0 i := fun i => by rw [a3 0 (by omega), zs_sm]
  have hAo : ∀ r, r ≠ 0 → ¬ (2 ≤ r ∧ r ≤ 6) → A2 r = A r := fun r r1 r2 => by rw [a3 r (by omega), zs_df r1]
  have hB8 : ∀ i, B2 148 i = if i = 4 then znn m else B 148 i := fun i => by rw [b2 148 (by decide), zs_sm]
  have hBo : ∀ r, r ≠ 148 → r ≠ 149 → B2 r = B r := fun r r1 r2 => by rw [b2 r r2, zs_df r1]
  have hrow : ∀ j, j < 48 → B2 149 j = B 151 (48 * m + j) := fun j hj => by rw [b3, if_pos hj, zs_df (by decide)]
  have hhi : ∀ j, 48 ≤ j → B2 149 j = B 149 j := fun j hj => by rw [b3, if_neg (by omega), zs_df (by decide)]
  have hF : rowF (B 149) (B2 149) := fun j r1 _ => hhi j r1
  refine ⟨1, A2, B2, ?_, ?_, ⟨n, k, c, b, ⟨fixIs_row hF h2 (fixIs_of h1 (fun r hr => hAo r (by omega) (by omega))), fixOk_row hF h2, momIs_row a2 hn10 hrow, momOk_row q2 hn10 hrow, bookIs_row (bookIs_of h5 (fun r r1 r2 => hAo r (by omega) (by omega))) (fun j r1 r2 => hhi j (by omega))⟩, ?_, imgIs_of h7 ⟨by rw [hA0, if_neg (by decide)], fun r r1 r2 => hAo r (by omega) (by omega)⟩ ⟨by rw [hB8, if_neg (by decide)], hBo 150 (by decide) (by decide)⟩, tapeIs_of h8 ⟨by rw [hAo 119 (by decide) (by omega)], by rw [hAo 119 (by decide) (by omega)], by rw [hAo 119 (by decide) (by omega)], hAo 120 (by decide) (by omega)⟩ ⟨by rw [hB8, if_neg (by decide)], by rw [hB8, if_neg (by decide)], by rw [hB8, if_neg (by decide)], hBo 158 (by decide) (by decide)⟩⟩, fun r hr => hAo r (by omega) (by omega), fun r hr => hBo r (by omega) (by omega)⟩
  · unfold f138_undo
    rw [g2, if_neg hne, es]
    simp only [zlet]
    have e4 : (zs A 0 5 (znn m)) 0 4 = znn o := by rw [zs_sm, if_neg (by decide)]; exact g1
    have e5 : (zs A 0 5 (znn m)) 0 5 = znn m := by rw [zs_sm, if_pos rfl]
    rw [e4, e5, zn_add, zrem6 (by omega), if_pos ((zn_zin (by omega)).mpr hmod), show zpa (znn ((o + m) % 6)) = 84 + 5 * ((o + m) % 6) by rw [zpa, zn_zi (by omega)], a1]
    rfl
  · unfold f198_undo
    rw [g3, if_neg hne, es]
    simp only [zlet]
    rw [b1]
    rfl
  · refine ⟨o, m, ho, by omega, by rw [hA0, if_neg (by decide)]; exact g1, by rw [hA0, if_pos rfl], by rw [hB8, if_pos rfl], fun j hj => ?_⟩
    rw [hBo 151 (by decide) (by decide)]
    have hmod2 := Nat.mod_lt (o + j) (show 0 < 6 by decide)
    obtain ⟨s1, s2⟩ := g4 j (by omega)
    exact ⟨momIs_of s1 (fun r r1 r2 => hAo r (by omega) (by omega)), s2⟩
theorem yAns_neg {w : Nat → Int32} {n : Nat} {x v : Int32} (hn : n ≤ 10) (h : yAns w n x v) : (x < 0 ↔ v = -1) ∧ (x = -2 ↔ ¬ w 1 < w 50) ∧ zmax x (-1) = v ∧ ∀ q, q < n → (x = znn q ↔ v = znn q) := by
  have e2 : ∀ q, q < n → ¬ (-2 : Int32) = znn q := fun q hq hc => by
    have := congrArg Int32.toInt hc
    rw [zn_toInt (by omega)] at this
    have h2 : Int32.toInt (-2) = -2 := rfl
    omega
  rcases h with ⟨h1, rfl, rfl⟩ | ⟨h1, ⟨rfl, rfl⟩ | ⟨p, hp, rfl, rfl⟩⟩
  · refine ⟨by decide, ⟨fun _ => h1, fun _ => rfl⟩, by decide, fun q hq => ⟨fun hc => absurd hc (e2 q hq), fun hc => absurd hc (zn_ne_neg' (by omega))⟩⟩
  · exact ⟨by decide, ⟨fun hc => absurd hc (by decide), fun hc => absurd h1 hc⟩, by decide, fun q hq => Iff.rfl⟩
  · refine ⟨⟨fun hc => absurd hc (zn_nneg (by omega)), fun hc => absurd hc (zn_ne_neg (by omega))⟩, ⟨fun hc => absurd hc.symm (e2 p hp), fun hc => absurd h1 hc⟩, ?_, fun q hq => Iff.rfl⟩
    unfold zmax
    rw [if_neg (by
      have := neg_lt_zn (k := p) (by omega)
      intro hc
      grind)]
theorem sync_years (x : Int32) : sync (f24_years x) (f203_years x) := by
  rintro A B ⟨n, k, c, b, h0, h6, h7, h8⟩
  have hI : Inv2 A B := ⟨n, k, c, b, h0, h6, h7, h8⟩
  have hn10 := h0.2.1.1.1
  rcases within_ex (x := x) (lo := 1) (hi := 40) (by decide) (by decide) with ⟨N, hN1, hN, rfl, e1, e2⟩ | ⟨e1, e2⟩
  case inr => exact sync_same (v := -1) hI (by unfold f24_years; rw [show f13_within x 1 40 = some 0 from e1]; rfl) (by unfold f203_years; rw [show f149_isIn x 1 40 = some 0 from e2]; rfl)
  obtain ⟨y, hy, ey, -⟩ := h0.2.2.2.1.2.1
  have a5 : A 2 5 = znn y := h0.2.2.1.1.2.1.trans ey
  by_cases hyN : 999 < y + N
  · have hlt : (999 : Int32) < znn (y + N) := by
      show znn 999 < znn (y + N)
      rw [zn_lt (by decide) (by omega)]; exact hyN
    refine sync_same (v := -1) hI ?_ ?_
    · unfold f24_years
      rw [show f13_within (znn N) 1 40 = some 1 from e1, a5, zn_add]
      simp only [Option.bind_some]
      rw [if_neg (by decide), if_pos hlt]
    · unfold f203_years
      rw [show f149_isIn (znn N) 1 40 = some 1 from e2, ey, zn_add]
      simp only [Option.bind_some]
      rw [if_neg (by decide), if_pos hlt]
  have hlt : ¬ (999 : Int32) < znn (y + N) := by
    show ¬ znn 999 < znn (y + N)
    rw [zn_lt (by decide) (by omega)]; exact hyN
  -- the YEARS one by one
  obtain ⟨⟨r1, A'⟩, ⟨r2, B'⟩, g1, g2, g3, g4, g5, g6, g7, g8, g9⟩ := zpair (fun f (a : Int32 × ZI) c => f24_l34 (znn N) f a.1 c a.2) (fun f (a : Int32 × ZI) c => f203_l35 (znn N) f a.1 c a.2) N (fun i a d => a.1 = d.1 ∧ Inv5 a.2 d.2 n k c b ∧ momOk (d.2 149) n (y + i) ∧ (pastIs a.2 d.2 n ∧ imgIs a.2 d.2 ∧ tapeIs a.2 d.2) ∧ d.2 148 30 = 1 ∧ (∀ o, 148 ≤ o → a.2 o = A o) ∧ ∀ o, o < 148 → d.2 o = B o) (fun a d => a.1 = d.1 ∧ Inv5 a.2 d.2 n k c b ∧ (pastIs a.2 d.2 n ∧ imgIs a.2 d.2 ∧ tapeIs a.2 d.2) ∧ (∀ o, 148 ≤ o → a.2 o = A o) ∧ (∀ o, o < 148 → d.2 o = B o) ∧ True ∧ True) (fun f i a d hi had => by
      obtain ⟨x1, A1⟩ := a
      obtain ⟨x2, B1⟩ := d
      obtain ⟨rfl, i0, im, ⟨i6, i7, i8⟩, it, iA, iB⟩ := had
      simp only at i0 im i6 i7 i8 it iA iB
      obtain ⟨A2, B2, k1, k2, k3, k4, k5⟩ := keep_eq i6 hn10 i0.2.2.1 i0.2.2.2.1
      obtain ⟨⟨j1, j2, j3, j4, j5⟩, j7, j8⟩ := keep_Inv i0 i7 i8 k4 k5
      have e149 : B2 149 = B1 149 := k5.1 149 (by decide) (by decide)
      have ht2 : B2 148 30 = 1 := (k5.2 30 (by decide)).trans it
      have jm : momOk (B2 149) n (y + i) := by rw [e149]; exact im
      obtain ⟨xx, v, A3, B3, p1, p2, p3, p4, p5, p6, p7, p8, -, p10, p11⟩ := pass_eq (a := 2) (r := 1) (Or.inl ⟨rfl, rfl, ht2, j5⟩) j1 j2 j3 jm
      left
      have hA3 : ∀ o, 12 ≤ o → o ≠ 16 → o ≠ 33 → o ≠ 40 → o ≠ 41 → A3 o = A2 o := fun o q1 q2 q3 q4 q5 => p11 o q2 q3 q4 q5 (by omega) (by omega) (by omega) (by omega) (by omega)
      have hA30 : A3 0 = A2 0 := p11 0 (by decide) (by decide) (by decide) (by decide) (by decide) (by decide) (by decide) (by decide) (by omega)
      have ans := yAns_neg hn10 p8
      have hpast : pastIs A3 B3 n := pastIs_of k3 ⟨by rw [hA30], by rw [hA30], fun o q1 q2 => hA3 o (by omega) (by omega) (by omega) (by omega) (by omega)⟩ ⟨by rw [p10 148 (by decide) (by decide) (by decide)], p10 151 (by decide) (by decide) (by decide)⟩
      have himg : imgIs A3 B3 := imgIs_of j7 ⟨by rw [hA30], fun o q1 q2 => hA3 o (by omega) (by omega) (by omega) (by omega) (by omega)⟩ ⟨by rw [p10 148 (by decide) (by decide) (by decide)], p10 150 (by decide) (by decide) (by decide)⟩
      have htape : tapeIs A3 B3 := by
        have e119 : A3 119 = A2 119 := hA3 119 (by decide) (by decide) (by decide) (by decide) (by decide)
        exact tapeIs_of j8 ⟨by rw [e119], by rw [e119], by rw [e119], hA3 120 (by decide) (by decide) (by decide) (by decide) (by decide)⟩ ⟨by rw [p10 148 (by decide) (by decide) (by decide)], by rw [p10 148 (by decide) (by decide) (by decide)], by rw [p10 148 (by decide) (by decide) (by decide)], p10 158 (by decide) (by decide) (by decide)⟩
      have hinv : Inv5 A3 B3 n k c b := ⟨p3, p4, p5, momOk_mono p6 (by omega), p7 rfl⟩
      have hAo : ∀ o, 148 ≤ o → A3 o = A o := fun o ho => (hA3 o (by omega) (by omega) (by omega) (by omega) (by omega)).trans ((k4.1 o (by omega) (by omega)).trans (iA o ho))
      have hBo : ∀ o, o < 148 → B3 o = B o := fun o ho => (p10 o (by omega) (by omega) (by omega)).trans ((k5.1 o (by omega) (by omega)).trans (iB o ho))
      have ht3 : B3 148 30 = 1 := by rw [p10 148 (by decide) (by decide) (by decide)]; exact ht2
      dsimp only
      rw [f24_l34, f203_l35, if_pos ((zn_lt (by omega) (by omega)).mpr hi), if_pos ((zn_lt (by omega) (by omega)).mpr hi), k1, k2, zadd1]
      simp only [Option.bind_some]
      rw [p1, p2]
      simp only [Option.bind_some, zlet]
      by_cases hx : xx < 0
      · rw [if_pos hx, if_pos (ans.1.mp hx)]
        exact ⟨(x1, A3), (x1, B3), ⟨rfl, hinv, by rw [show y + (i + 1) = y + i + 1 by omega]; exact p6, ⟨hpast, himg, htape⟩, ht3, hAo, hBo⟩, rfl, by rw [Int32.add_zero]⟩
      · rw [if_neg hx, if_neg (fun hc => hx (ans.1.mpr hc))]
        exact ⟨(x1 + 1, A3), (x1 + 1, B3), ⟨rfl, hinv, by rw [show y + (i + 1) = y + i + 1 by omega]; exact p6, ⟨hpast, himg, htape⟩, ht3, hAo, hBo⟩, rfl, rfl⟩) (fun f a d had => by
      obtain ⟨x1, A1⟩ := a
      obtain ⟨x2, B1⟩ := d
      obtain ⟨rfl, i0, -, i6, -, iA, iB⟩ := had
      simp only at i0 i6 iA iB
      refine ⟨(x1, A1), (x1, B1), ⟨rfl, i0, i6, iA, iB, trivial, trivial⟩, ?_, ?_⟩
      · dsimp only
        rw [f24_l34, if_neg (by rw [zn_lt (by omega) (by omega)]; omega)]
      · dsimp only
        rw [f203_l35, if_neg (by rw [zn_lt (by omega) (by omega)]; omega)]) zfu 0 (0, A) (0, zs B 148 30 1) (by omega) (by rw [zfu_eq]; omega) (by
      have hb : ∀ o, o ≠ 148 → (zs B 148 30 1) o = B o := fun o ho => zs_df ho
      have hb8 : ∀ j, j ≠ 30 → (zs B 148 30 1) 148 j = B 148 j := fun j hj => by rw [zs_sm, if_neg hj]
      have hb30 : (zs B 148 30 1) 148 30 = 1 := by rw [zs_sm, if_pos rfl]
      refine ⟨rfl, Inv5_scr h0 (scrA_refl A) (hb 149 (by decide)), ?_, rest_scr ⟨h6, h7, h8⟩ (scrA_refl A) ⟨fun o q1 _ _ _ _ => hb o q1, hb8⟩, hb30, fun _ _ => rfl, fun o ho => hb o (by omega)⟩
      show momOk ((zs B 148 30 1) 149) n (y + 0)
      rw [hb 149 (by decide)]
      exact momOk_exact h0.2.2.2.1 ey (by omega) (by decide))
  simp only at g3 g4 g5 g6 g7
  subst g3
  refine ⟨r1, A', B', ?_, ?_, ⟨n, k, c, b, g4, g5⟩, g6, g7⟩
  · have g1 : f24_l34 (znn N) zfu 0 0 A = some (r1, A') := g1
    unfold f24_years
    rw [show f13_within (znn N) 1 40 = some 1 from e1, a5, zn_add]
    simp only [Option.bind_some]
    rw [if_neg (by decide), if_neg hlt, g1]
    rfl
  · have g2 : f203_l35 (znn N) zfu 0 0 (zs B 148 30 1) = some (r1, B') := g2
    unfold f203_years
    rw [show f149_isIn (znn N) 1 40 = some 1 from e2, ey, zn_add]
    simp only [Option.bind_some, zlet]
    rw [if_neg (by decide), if_neg hlt, g2]
    rfl
