-- ===== calls that tell: state, person, set, tie, sit, traces, bid, feed, end =====
theorem zn_nat {n : Nat} (h : n ≤ 1000000) : (0 : Int32) ≤ znn n ∧ znn n ≤ 1000000 := by
  constructor
  · rw [Int32.le_iff_toInt_le, zn_toInt (by omega)]; show (0 : Int) ≤ _; omega
  · rw [Int32.le_iff_toInt_le, zn_toInt (by omega)]; show _ ≤ (1000000 : Int); omega
theorem range_ex {x : Int32} {lo hi : Nat} (h1 : ¬ x < znn lo) (h2 : ¬ znn hi < x) (hlo : lo ≤ 1000000) (hhi : hi ≤ 1000000) : ∃ k, lo ≤ k ∧ k ≤ hi ∧ x = znn k := by
  have a := zn_nat hlo
  have h0 : ¬ x < 0 := by grind
  have hx : zi x < 2147483648 := Int32.toNatClampNeg_lt x
  have e := zi_zn h0
  rw [← e, zn_lt hx (by omega)] at h1
  rw [← e, zn_lt (by omega) hx] at h2
  exact ⟨zi x, by omega, by omega, e.symm⟩
theorem within_ex {x : Int32} {lo hi : Nat} (hlo : lo ≤ 1000000) (hhi : hi ≤ 1000000) : (∃ k, lo ≤ k ∧ k ≤ hi ∧ x = znn k ∧ f13_within x (znn lo) (znn hi) = some 1 ∧ f149_isIn x (znn lo) (znn hi) = some 1) ∨ (f13_within x (znn lo) (znn hi) = some 0 ∧ f149_isIn x (znn lo) (znn hi) = some 0) := by
  rw [within_eq, isIn_eq]
  by_cases h : x < znn lo ∨ znn hi < x
  · rw [if_pos h]
    exact Or.inr ⟨rfl, rfl⟩
  · rw [if_neg h]
    obtain ⟨k, h1, h2, h3⟩ := range_ex (fun hc => h (Or.inl hc)) (fun hc => h (Or.inr hc)) hlo hhi
    exact Or.inl ⟨k, h1, h2, h3, rfl, rfl⟩
theorem has_eq {A B : ZI} {n k c b : Nat} (h : Inv5 A B n k c b) (x : Int32) : (∃ p, p < n ∧ x = znn p ∧ f17_has 1 x A = some 1 ∧ f152_isPerson x B = some 1) ∨ (f17_has 1 x A = some 0 ∧ f152_isPerson x B = some 0) := by
  have hn10 := h.2.1.1.1
  have h48 := h.2.1.1.2.1
  have h11 : A 1 11 = znn n := h.1.1.1.1.trans h48
  unfold f17_has f152_isPerson
  rw [isIn_eq, h48, h11]
  have a := zn_nat (n := n) (by omega)
  by_cases h0 : x < 0
  · rw [if_pos h0, if_pos (Or.inl h0)]
    exact Or.inr ⟨rfl, rfl⟩
  · rw [if_neg h0]
    by_cases h1 : x < znn n
    · rw [if_pos h1, if_neg (by grind)]
      have hx : zi x < 2147483648 := Int32.toNatClampNeg_lt x
      have e := zi_zn h0
      rw [← e, zn_lt hx (by omega)] at h1
      exact Or.inl ⟨zi x, h1, e.symm, rfl, rfl⟩
    · rw [if_neg h1, if_pos (by grind)]
      exact Or.inr ⟨rfl, rfl⟩
/-- both forget what could be undone -/
theorem forget_past {A A' B B' : ZI} {n n' : Nat} (h : pastIs A B n) (h4 : A' 0 4 = A 0 4) (h5 : A' 0 5 = 0) (hB : B' 148 4 = 0) : pastIs A' B' n' := by
  obtain ⟨o, m, h1, -, h3, -⟩ := h
  exact ⟨o, 0, h1, by omega, by rw [h4]; exact h3, h5, hB, fun j hj => by omega⟩
theorem sync_state (a : Int32) : sync (f10_state a) (f146_state a) := by
  rintro A B ⟨n, k, c, b, ⟨h1, h2, h3, h4, h5⟩, h6, h7, h8⟩
  have hn10 := h2.1.1
  have e : A 2 9 = B 149 4 := h3.1.2.2.2.2.2.1
  refine ⟨B 149 4, zs (zs A 2 9 a) 0 5 0, zs (zs B 149 4 a) 148 4 0, by unfold f10_state; rw [e]; rfl, rfl, ?_, fun o ho => by rw [zs_ap, if_neg (by omega), zs_ap, if_neg (by omega)], fun o ho => by rw [zs_ap, if_neg (by omega), zs_ap, if_neg (by omega)]⟩
  have hA : ∀ q, q ≠ 2 → q ≠ 0 → (zs (zs A 2 9 a) 0 5 0) q = A q := fun q q1 q2 => by rw [zs_ap, if_neg q2, zs_ap, if_neg q1]
  have hB : ∀ q, q ≠ 149 → q ≠ 148 → (zs (zs B 149 4 a) 148 4 0) q = B q := fun q q1 q2 => by rw [zs_ap, if_neg q2, zs_ap, if_neg q1]
  have hr : ∀ j, j ≠ 4 → (zs (zs B 149 4 a) 148 4 0) 149 j = B 149 j := fun j hj => by rw [zs_ap, if_neg (by decide), zs_ap, if_pos rfl, upd_ap, if_neg hj]
  have hr8 : ∀ j, j ≠ 4 → (zs (zs B 149 4 a) 148 4 0) 148 j = B 148 j := fun j hj => by rw [zs_ap, if_pos rfl, upd_ap, if_neg hj, zs_ap, if_neg (by decide)]
  have hr0 : ∀ j, j ≠ 5 → (zs (zs A 2 9 a) 0 5 0) 0 j = A 0 j := fun j hj => by rw [zs_ap, if_pos rfl, upd_ap, if_neg hj, zs_ap, if_neg (by decide)]
  have hF : rowF (B 149) ((zs (zs B 149 4 a) 148 4 0) 149) := fun j q1 q2 => hr j (by omega)
  refine ⟨n, k, c, b, ⟨fixIs_row hF h2 (fixIs_of h1 (fun o ho => hA o (by omega) (by omega))), fixOk_row hF h2, ?_, ?_, ?_⟩, forget_past h6 (hr0 4 (by decide)) (by rw [zs_ap, if_pos rfl, upd_ap, if_pos rfl]) (by rw [zs_ap, if_pos rfl, upd_ap, if_pos rfl]), imgIs_of h7 ⟨hr0 2 (by decide), fun o q1 q2 => hA o (by omega) (by omega)⟩ ⟨hr8 5 (by decide), hB 150 (by decide) (by decide)⟩, tapeIs_of h8 ⟨by rw [hA 119 (by decide) (by decide)], by rw [hA 119 (by decide) (by decide)], by rw [hA 119 (by decide) (by decide)], hA 120 (by decide) (by decide)⟩ ⟨hr8 19 (by decide), hr8 26 (by decide), hr8 28 (by decide), hB 158 (by decide) (by decide)⟩⟩
  · obtain ⟨⟨m1, m2, m3, m4, m5, m6, m7⟩, m8⟩ := h3
    refine ⟨?_, fun p hp => ?_⟩
    · simp only [zs_ap, upd_ap, Nat.reduceEqDiff, ↓reduceIte]
      exact ⟨m1, m2, m3, m4, m5, trivial, m7⟩
    · rw [hA _ (by omega) (by omega), hA _ (by omega) (by omega), hA _ (by omega) (by omega), hA _ (by omega) (by omega), hr _ (by omega), hr _ (by omega), hr _ (by omega), hr _ (by omega)]
      exact m8 p hp
  · obtain ⟨p1, ⟨y, p2, p3, p4⟩, p5, p6, p7⟩ := h4
    refine ⟨by rw [hr _ (by omega)]; exact p1, ⟨y, p2, by rw [hr _ (by omega)]; exact p3, fun p hp => by rw [hr _ (by omega)]; exact p4 p hp⟩, by rw [hr _ (by omega)]; exact p5, by rw [hr _ (by omega)]; exact p6, fun p hp => by rw [hr _ (by omega), hr _ (by omega)]; exact p7 p hp⟩
  · exact bookIs_row (bookIs_of h5 (fun o q1 q2 => hA o (by omega) (by omega))) (fun j q1 q2 => hr j (by omega))
theorem sync_same {fC fR : ZI → Option (Int32 × ZI)} {A B : ZI} {v : Int32} (hI : Inv2 A B) (h1 : fC A = some (v, A)) (h2 : fR B = some (v, B)) : ∃ v A' B', fC A = some (v, A') ∧ fR B = some (v, B') ∧ Inv2 A' B' ∧ (∀ o, 148 ≤ o → A' o = A o) ∧ ∀ o, o < 148 → B' o = B o :=
  ⟨v, A, B, h1, h2, hI, fun _ _ => rfl, fun _ _ => rfl⟩
theorem sync_person (x y : Int32) : sync (f12_person x y) (f148_person x y) := by
  rintro A B ⟨n, k, c, b, h0, h6, h7, h8⟩
  have hI : Inv2 A B := ⟨n, k, c, b, h0, h6, h7, h8⟩
  obtain ⟨h1, h2, h3, h4, h5⟩ := h0
  have hn10 := h2.1.1
  have h48 := h2.1.2.1
  have h11 : A 1 11 = znn n := h1.1.1.1.trans h48
  rcases within_ex (x := x) (lo := 0) (hi := 99) (by decide) (by decide) with ⟨ag, -, hag, rfl, e1, e2⟩ | ⟨e1, e2⟩
  case inr =>
    refine sync_same (v := -1) hI ?_ ?_
    · unfold f12_person; rw [show f13_within x 0 99 = some 0 from e1]; rfl
    · unfold f148_person; rw [show f149_isIn x 0 99 = some 0 from e2]; rfl
  rcases within_ex (x := y) (lo := 0) (hi := 24) (by decide) (by decide) with ⟨nd, -, hnd, rfl, e3, e4⟩ | ⟨e3, e4⟩
  case inr =>
    refine sync_same (v := -1) hI ?_ ?_
    · unfold f12_person; rw [show f13_within (znn ag) 0 99 = some 1 from e1, show f13_within y 0 24 = some 0 from e3]; rfl
    · unfold f148_person; rw [show f149_isIn (znn ag) 0 99 = some 1 from e2, show f149_isIn y 0 24 = some 0 from e4]; rfl
  by_cases hn : n = 10
  · refine sync_same (v := -1) hI ?_ ?_
    · unfold f12_person; rw [show f13_within (znn ag) 0 99 = some 1 from e1, show f13_within (znn nd) 0 24 = some 1 from e3, h11, hn]; rfl
    · unfold f148_person; rw [show f149_isIn (znn ag) 0 99 = some 1 from e2, show f149_isIn (znn nd) 0 24 = some 1 from e4, h48, hn]; rfl
  have hz : zin (znn n) 10 = true := (zn_zin (by omega)).mpr (by omega)
  have zz : zi (znn n) = n := zn_zi (by omega)
  have hA' : f12_person (znn ag) (znn nd) A = some (znn n, zs (zs (zs (zs (zs (zs (zs (zs (zs A 0 5 0) 37 n (znn nd)) 38 n 999) 39 n (-1)) 3 n (znn ag)) 4 n 0) 5 n 0) 6 n 0) 1 11 (znn n + 1)) := by
    unfold f12_person
    rw [show f13_within (znn ag) 0 99 = some 1 from e1, show f13_within (znn nd) 0 24 = some 1 from e3, h11]
    simp only [Option.bind_some]
    rw [if_neg (by decide), if_neg (by decide), if_pos (show znn n < 10 by rw [zl10, zn_lt (by omega) (by decide)]; omega)]
    unfold f11_forgetPasts f14_welcome
    simp only [zlet, Option.bind_some, Nat.reduceAdd]
    have e11 : (zs A 0 5 0) 1 11 = znn n := by rw [zs_ap, if_neg (by decide)]; exact h11
    rw [e11, if_pos (show znn n < 10 by rw [zl10, zn_lt (by omega) (by decide)]; omega), zz]
    simp only [hz, ↓reduceIte]
    simp only [zs_ap, Nat.reduceEqDiff, ↓reduceIte, h11, Option.bind_some]
  have hB' : f148_person (znn ag) (znn nd) B = some (znn n, zs (zs (zs (zs (zs (zs (zs (zs (zs B 149 (17 + n) (znn ag)) 149 (60 + n) (znn nd)) 149 (70 + n) 999) 149 (27 + n) 0) 149 (37 + n) 0) 149 (7 + n) 0) 149 (80 + n) (-1)) 149 48 (znn n + 1)) 148 4 0) := by
    unfold f148_person
    rw [show f149_isIn (znn ag) 0 99 = some 1 from e2, show f149_isIn (znn nd) 0 24 = some 1 from e4, h48]
    simp only [Option.bind_some]
    have z : ∀ q : Nat, q ≤ 80 → zi (znn (q + n)) = q + n := fun q hq => zn_zi (by omega)
    have y : ∀ q : Nat, q ≤ 80 → zin (znn (q + n)) 2064 = true := fun q hq => (zn_zin (by omega)).mpr (by omega)
    rw [if_neg (by decide), if_neg (by decide), if_neg (show ¬ znn n = 10 by rw [zl10, zn_eq (by omega) (by decide)]; omega)]
    simp only [zlet]
    rw [show (17 : Int32) + znn n = znn (17 + n) from zn_add 17 n, show (60 : Int32) + znn n = znn (60 + n) from zn_add 60 n, show (70 : Int32) + znn n = znn (70 + n) from zn_add 70 n, show (27 : Int32) + znn n = znn (27 + n) from zn_add 27 n, show (37 : Int32) + znn n = znn (37 + n) from zn_add 37 n, show (7 : Int32) + znn n = znn (7 + n) from zn_add 7 n, show (80 : Int32) + znn n = znn (80 + n) from zn_add 80 n]
    have z17 := z 17 (by decide); have z60 := z 60 (by decide); have z70 := z 70 (by decide); have z27 := z 27 (by decide); have z37 := z 37 (by decide); have z7 := z 7 (by decide); have z80 := z 80 (by decide)
    have y17 := y 17 (by decide); have y60 := y 60 (by decide); have y70 := y 70 (by decide); have y27 := y 27 (by decide); have y37 := y 37 (by decide); have y7 := y 7 (by decide); have y80 := y 80 (by decide)
    simp only [zlet, z17, z60, z70, z27, z37, z7, z80, y17, y60, y70, y27, y37, y7, y80, ↓reduceIte, f147_forgets, Option.bind_some]
    have e48 : (zs (zs (zs (zs (zs (zs (zs B 149 (17 + n) (znn ag)) 149 (60 + n) (znn nd)) 149 (70 + n) 999) 149 (27 + n) 0) 149 (37 + n) 0) 149 (7 + n) 0) 149 (80 + n) (-1)) 149 48 = znn n := by
      simp only [zs_ap, upd_ap, ↓reduceIte]
      rw [if_neg (by omega), if_neg (by omega), if_neg (by omega), if_neg (by omega), if_neg (by omega), if_neg (by omega), if_neg (by omega)]
      exact h48
    rw [e48]
  refine ⟨znn n, _, _, hA', hB', ?_, fun o ho => ?_, fun o ho => ?_⟩
  rotate_left
  · simp only [zs_ap]
    rw [if_neg (by omega), if_neg (by omega), if_neg (by omega), if_neg (by omega), if_neg (by omega), if_neg (by omega), if_neg (by omega), if_neg (by omega), if_neg (by omega)]
  · simp only [zs_ap]
    rw [if_neg (by omega), if_neg (show ¬ o = 149 by omega), if_neg (show ¬ o = 149 by omega), if_neg (show ¬ o = 149 by omega), if_neg (show ¬ o = 149 by omega), if_neg (show ¬ o = 149 by omega), if_neg (show ¬ o = 149 by omega), if_neg (show ¬ o = 149 by omega), if_neg (show ¬ o = 149 by omega)]
  generalize hgA : zs (zs (zs (zs (zs (zs (zs (zs (zs A 0 5 0) 37 n (znn nd)) 38 n 999) 39 n (-1)) 3 n (znn ag)) 4 n 0) 5 n 0) 6 n 0) 1 11 (znn n + 1) = A'
  generalize hgB : zs (zs (zs (zs (zs (zs (zs (zs (zs B 149 (17 + n) (znn ag)) 149 (60 + n) (znn nd)) 149 (70 + n) 999) 149 (27 + n) 0) 149 (37 + n) 0) 149 (7 + n) 0) 149 (80 + n) (-1)) 149 48 (znn n + 1)) 148 4 0 = B'
  clear hA' hB'
  have hAo : ∀ o, o ≠ 0 → o ≠ 1 → o ≠ 3 → o ≠ 4 → o ≠ 5 → o ≠ 6 → o ≠ 37 → o ≠ 38 → o ≠ 39 → A' o = A o := fun o a b c d e f g h i => by
    rw [← hgA]; simp only [zs_ap, if_neg a, if_neg b, if_neg c, if_neg d, if_neg e, if_neg f, if_neg g, if_neg h, if_neg i]
  have hA1 : ∀ j, j ≠ 11 → A' 1 j = A 1 j := fun j hj => by rw [← hgA]; simp only [zs_ap, upd_ap, Nat.reduceEqDiff, ↓reduceIte, if_neg hj]
  have hA0 : ∀ j, j ≠ 5 → A' 0 j = A 0 j := fun j hj => by rw [← hgA]; simp only [zs_ap, upd_ap, Nat.reduceEqDiff, ↓reduceIte, if_neg hj]
  have hAp : ∀ q, q ≠ n → A' 3 q = A 3 q ∧ A' 4 q = A 4 q ∧ A' 5 q = A 5 q ∧ A' 6 q = A 6 q ∧ A' 37 q = A 37 q ∧ A' 38 q = A 38 q ∧ A' 39 q = A 39 q := fun q hq => by rw [← hgA]; simp only [zs_ap, upd_ap, Nat.reduceEqDiff, ↓reduceIte, if_neg hq]; refine ⟨?_, ?_, ?_, ?_, ?_, ?_, ?_⟩ <;> trivial
  have hAn : A' 3 n = znn ag ∧ A' 4 n = 0 ∧ A' 5 n = 0 ∧ A' 6 n = 0 ∧ A' 37 n = znn nd ∧ A' 38 n = 999 ∧ A' 39 n = -1 := by rw [← hgA]; simp only [zs_ap, upd_ap, Nat.reduceEqDiff, ↓reduceIte]; refine ⟨?_, ?_, ?_, ?_, ?_, ?_, ?_⟩ <;> trivial
  have hA11 : A' 1 11 = znn (n + 1) := by rw [← hgA]; simp only [zs_ap, upd_ap, ↓reduceIte]; exact zadd1 n
  have hA05 : A' 0 5 = 0 := by rw [← hgA]; simp only [zs_ap, upd_ap, Nat.reduceEqDiff, ↓reduceIte]
  have hBo : ∀ o, o ≠ 148 → o ≠ 149 → B' o = B o := fun o a b => by rw [← hgB]; simp only [zs_ap, if_neg a, if_neg b]
  have hB8 : ∀ j, j ≠ 4 → B' 148 j = B 148 j := fun j hj => by rw [← hgB]; simp only [zs_ap, upd_ap, Nat.reduceEqDiff, ↓reduceIte, if_neg hj]
  have hB84 : B' 148 4 = 0 := by rw [← hgB]; simp only [zs_ap, upd_ap, ↓reduceIte]
  have row : ∀ j, j ≠ 48 → j ≠ 17 + n → j ≠ 60 + n → j ≠ 70 + n → j ≠ 27 + n → j ≠ 37 + n → j ≠ 7 + n → j ≠ 80 + n → B' 149 j = B 149 j := fun j a b c d e f g h => by
    rw [← hgB]; simp only [zs_ap, upd_ap, Nat.reduceEqDiff, ↓reduceIte, if_neg a, if_neg b, if_neg c, if_neg d, if_neg e, if_neg f, if_neg g, if_neg h]
  have rown : B' 149 48 = znn (n + 1) ∧ B' 149 (17 + n) = znn ag ∧ B' 149 (60 + n) = znn nd ∧ B' 149 (70 + n) = znn 999 ∧ B' 149 (27 + n) = znn 0 ∧ B' 149 (37 + n) = znn 0 ∧ B' 149 (7 + n) = znn 0 ∧ B' 149 (80 + n) = -1 := by
    rw [← hgB]
    simp only [zs_ap, upd_ap, Nat.reduceEqDiff, ↓reduceIte]
    refine ⟨zadd1 n, ?_, ?_, ?_, ?_, ?_, ?_, ?_⟩
    · rw [if_neg (by omega), if_neg (by omega), if_neg (by omega), if_neg (by omega), if_neg (by omega), if_neg (by omega), if_neg (by omega)]
    · rw [if_neg (by omega), if_neg (by omega), if_neg (by omega), if_neg (by omega), if_neg (by omega), if_neg (by omega)]
    · rw [if_neg (by omega), if_neg (by omega), if_neg (by omega), if_neg (by omega), if_neg (by omega)]; rfl
    · rw [if_neg (by omega), if_neg (by omega), if_neg (by omega), if_neg (by omega)]; rfl
    · rw [if_neg (by omega), if_neg (by omega), if_neg (by omega)]; rfl
    · rw [if_neg (by omega), if_neg (by omega)]; rfl
    · rw [if_neg (by omega)]
  clear hgA hgB
  obtain ⟨n48, n17, n60, n70, n27, n37, n7, n80⟩ := rown
  have hvn : ∀ m, m ≤ n → voiceN (B' 149) m = voiceN (B 149) m := by
    intro m
    induction m with
    | zero => intro _; rfl
    | succ m ih =>
      intro hm
      unfold voiceN
      rw [ih (by omega), row (80 + m) (by omega) (by omega) (by omega) (by omega) (by omega) (by omega) (by omega) (by omega)]
  obtain ⟨⟨⟨b1, b2, b3, b4, b5⟩, b6⟩, -⟩ := id h1
  obtain ⟨⟨-, -, p3, p4, p5, p6, p7, p8⟩, -⟩ := id h2
  have r49 : ∀ j, 49 ≤ j → j < 58 → B' 149 j = B 149 j := fun j q1 q2 => row j (by omega) (by omega) (by omega) (by omega) (by omega) (by omega) (by omega) (by omega)
  have rq : ∀ q, q < n → B' 149 (17 + q) = B 149 (17 + q) ∧ B' 149 (60 + q) = B 149 (60 + q) ∧ B' 149 (70 + q) = B 149 (70 + q) ∧ B' 149 (27 + q) = B 149 (27 + q) ∧ B' 149 (37 + q) = B 149 (37 + q) ∧ B' 149 (7 + q) = B 149 (7 + q) ∧ B' 149 (80 + q) = B 149 (80 + q) := fun q hq => ⟨row _ (by omega) (by omega) (by omega) (by omega) (by omega) (by omega) (by omega) (by omega), row _ (by omega) (by omega) (by omega) (by omega) (by omega) (by omega) (by omega) (by omega), row _ (by omega) (by omega) (by omega) (by omega) (by omega) (by omega) (by omega) (by omega), row _ (by omega) (by omega) (by omega) (by omega) (by omega) (by omega) (by omega) (by omega), row _ (by omega) (by omega) (by omega) (by omega) (by omega) (by omega) (by omega) (by omega), row _ (by omega) (by omega) (by omega) (by omega) (by omega) (by omega) (by omega) (by omega), row _ (by omega) (by omega) (by omega) (by omega) (by omega) (by omega) (by omega) (by omega)⟩
  have r7 : ∀ j, j < 7 → B' 149 j = B 149 j := fun j hj => row j (by omega) (by omega) (by omega) (by omega) (by omega) (by omega) (by omega) (by omega)
  obtain ⟨hf', hok'⟩ := fix_rest (A' := A') (w' := B' 149) (n' := n + 1) h1 h2 (by omega) (fun o q1 q2 q3 q4 q5 q6 q7 q8 => hAo o (by omega) (by omega) (by omega) (by omega) (by omega) (by omega) (by omega) (by omega) (by omega)) (fun j q1 q2 q3 q4 q5 q6 q7 q8 q9 => row j (by omega) (by omega) (by omega) (by omega) (by omega) (by omega) (by omega) (by omega)) (by
    refine ⟨⟨by rw [hA11, n48], by rw [hA1 12 (by decide), r49 49 (by decide) (by decide)]; exact b2, by rw [hA1 13 (by decide), r49 50 (by decide) (by decide)]; exact b3, by rw [hA1 14 (by decide), r49 56 (by decide) (by decide)]; exact b4, by rw [hA1 15 (by decide), r49 57 (by decide) (by decide)]; exact b5⟩, fun q hq => ?_⟩
    show A' 37 q = _ ∧ A' 38 q = _ ∧ A' 39 q = _
    by_cases hqn : q = n
    · subst hqn
      rw [n60, n70, n80]
      exact ⟨hAn.2.2.2.2.1, hAn.2.2.2.2.2.1, hAn.2.2.2.2.2.2⟩
    · obtain ⟨e1, e2, e3, e4, e5, e6, e7⟩ := rq q (by omega)
      obtain ⟨f1, f2, f3, f4, f5, f6, f7⟩ := hAp q hqn
      rw [e2, e3, e7, f5, f6, f7]
      exact b6 q (by omega)) (by
    refine ⟨by omega, n48, by rw [r49 49 (by decide) (by decide)]; exact p3, by rw [r49 50 (by decide) (by decide)]; exact p4, by rw [r49 56 (by decide) (by decide)]; exact p5, by rw [r49 57 (by decide) (by decide)]; exact p6, ?_, fun q hq => ?_⟩
    · have hv : voiceN (B' 149) (n + 1) = voiceN (B' 149) n + (if B' 149 (80 + n) = -1 then 0 else 1) := rfl
      rw [r49 51 (by decide) (by decide), p7, hv, hvn n (Nat.le_refl _), n80, if_pos rfl, Nat.add_zero]
    · by_cases hqn : q = n
      · subst hqn
        exact ⟨⟨nd, hnd, n60⟩, ⟨999, by decide, n70⟩, Or.inl n80⟩
      · obtain ⟨e1, e2, e3, e4, e5, e6, e7⟩ := rq q (by omega)
        obtain ⟨g1, g2, g3⟩ := p8 q (by omega)
        rw [e2, e3, e7]
        refine ⟨g1, g2, ?_⟩
        rcases g3 with g3 | ⟨q', hq', g3⟩
        · exact Or.inl g3
        · exact Or.inr ⟨q', by omega, g3⟩)
  refine ⟨n + 1, k, c, b, ⟨hf', hok', ?_, ?_, ?_⟩, forget_past h6 (hA0 4 (by decide)) hA05 hB84, imgIs_of h7 ⟨hA0 2 (by decide), fun o q1 q2 => hAo o (by omega) (by omega) (by omega) (by omega) (by omega) (by omega) (by omega) (by omega) (by omega)⟩ ⟨hB8 5 (by decide), hBo 150 (by decide) (by decide)⟩, ?_⟩
  · obtain ⟨⟨m1, m2, m3, m4, m5, m6, m7⟩, m8⟩ := h3
    have e2 : A' 2 = A 2 := hAo 2 (by decide) (by decide) (by decide) (by decide) (by decide) (by decide) (by decide) (by decide) (by decide)
    refine ⟨by rw [e2, r7 1 (by decide), r7 0 (by decide), r7 2 (by decide), r7 3 (by decide), r7 6 (by decide), r7 4 (by decide), r7 5 (by decide)]; exact ⟨m1, m2, m3, m4, m5, m6, m7⟩, fun q hq => ?_⟩
    show A' 3 q = _ ∧ A' 4 q = _ ∧ A' 5 q = _ ∧ A' 6 q = _
    by_cases hqn : q = n
    · subst hqn
      rw [n17, n27, n37, n7]
      exact ⟨hAn.1, hAn.2.1, hAn.2.2.1, hAn.2.2.2.1⟩
    · obtain ⟨e1, e2, e3, e4, e5, e6, e7⟩ := rq q (by omega)
      obtain ⟨f1, f2, f3, f4, f5, f6, f7⟩ := hAp q hqn
      rw [e1, e4, e5, e6, f1, f2, f3, f4]
      exact m8 q (by omega)
  · obtain ⟨p1, ⟨y, p2, p3, p4⟩, p5, p6, p7⟩ := h4
    refine ⟨by rw [r7 1 (by decide)]; exact p1, ⟨y, p2, by rw [r7 0 (by decide)]; exact p3, fun q hq => ?_⟩, by rw [r7 5 (by decide)]; exact p5, by rw [r7 6 (by decide)]; exact p6, fun q hq => ?_⟩
    · by_cases hqn : q = n
      · subst hqn
        exact ⟨0, by omega, n27⟩
      · obtain ⟨e1, e2, e3, e4, e5, e6, e7⟩ := rq q (by omega)
        rw [e4]
        exact p4 q (by omega)
    · by_cases hqn : q = n
      · subst hqn
        exact ⟨⟨ag, hag, n17⟩, 0, by decide, n7, by simp⟩
      · obtain ⟨e1, e2, e3, e4, e5, e6, e7⟩ := rq q (by omega)
        rw [e1, e6]
        exact p7 q (by omega)
  · exact bookIs_row (bookIs_of h5 (fun o q1 q2 => hAo o (by omega) (by omega) (by omega) (by omega) (by omega) (by omega) (by omega) (by omega) (by omega))) (fun j q1 q2 => row j (by omega) (by omega) (by omega) (by omega) (by omega) (by omega) (by omega) (by omega))
  · have e119 : A' 119 = A 119 := hAo 119 (by decide) (by decide) (by decide) (by decide) (by decide) (by decide) (by decide) (by decide) (by decide)
    exact tapeIs_of h8 ⟨by rw [e119], by rw [e119], by rw [e119], hAo 120 (by decide) (by decide) (by decide) (by decide) (by decide) (by decide) (by decide) (by decide) (by decide)⟩ ⟨hB8 19 (by decide), hB8 26 (by decide), hB8 28 (by decide), hBo 158 (by decide) (by decide)⟩
