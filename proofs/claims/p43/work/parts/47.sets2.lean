theorem zs_sm (M : ZI) (o k : Nat) (v : Int32) (j : Nat) : (zs M o k v) o j = if j = k then v else M o j := by rw [zs_ap, if_pos rfl, upd_ap]
theorem zs_df {M : ZI} {o k : Nat} {v : Int32} {o' : Nat} (h : o' ≠ o) : (zs M o k v) o' = M o' := by rw [zs_ap, if_neg h]
/-- a call that changes cells of the PEOPLE's part on each side and forgets -/
theorem tell_eq {A B A' B' : ZI} {n k c b : Nat} (h0 : Inv5 A B n k c b) (h6 : pastIs A B n) (h7 : imgIs A B) (h8 : tapeIs A B) (hAo : ∀ r, r ≠ 0 → r ≠ 1 → r ≠ 2 → r ≠ 3 → r ≠ 37 → r ≠ 38 → A' r = A r) (hA0 : ∀ i, A' 0 i = if i = 5 then 0 else A 0 i) (hBo : ∀ o, o ≠ 148 → o ≠ 149 → B' o = B o) (hB8 : ∀ i, B' 148 i = if i = 4 then 0 else B 148 i)
    (hr : ∀ i, i ≠ 1 → i ≠ 49 → i ≠ 50 → i ≠ 56 → i ≠ 57 → ¬ (17 ≤ i ∧ i < 27) → ¬ (60 ≤ i ∧ i < 80) → B' 149 i = B 149 i) (hp : pplIs A' 1 (B' 149) n) (hpo : pplOk (B' 149) n) (hm : momIs A' 2 (B' 149) n) (hmo : momOk (B' 149) n 999) :
    Inv2 A' B' ∧ (∀ o, 148 ≤ o → A' o = A o) ∧ ∀ o, o < 148 → B' o = B o := by
  obtain ⟨h1, h2, h3, h4, h5⟩ := h0
  have hn10 := h2.1.1
  have key := fix_rest (A' := A') (w' := B' 149) (n' := n) h1 h2 (Nat.le_refl _) (fun r q1 q2 q3 q4 q5 q6 q7 q8 => hAo r (by omega) (by omega) (by omega) (by omega) (by omega) (by omega)) (fun i q1 q2 q3 q4 q5 q6 q7 q8 q9 => hr i (by omega) (by omega) (by omega) (by omega) (by omega) (by omega) (by omega)) hp hpo
  have e119 : A' 119 = A 119 := hAo 119 (by decide) (by decide) (by decide) (by decide) (by decide) (by decide)
  exact ⟨⟨n, k, c, b, ⟨key.1, key.2, hm, hmo, bookIs_row (bookIs_of h5 (fun r q1 q2 => hAo r (by omega) (by omega) (by omega) (by omega) (by omega) (by omega))) (fun i q1 q2 => hr i (by omega) (by omega) (by omega) (by omega) (by omega) (by omega) (by omega))⟩, forget_past h6 (by rw [hA0, if_neg (by decide)]) (by rw [hA0, if_pos rfl]) (by rw [hB8, if_pos rfl]), imgIs_of h7 ⟨by rw [hA0, if_neg (by decide)], fun r q1 q2 => hAo r (by omega) (by omega) (by omega) (by omega) (by omega) (by omega)⟩ ⟨by rw [hB8, if_neg (by decide)], hBo 150 (by decide) (by decide)⟩, tapeIs_of h8 ⟨by rw [e119], by rw [e119], by rw [e119], hAo 120 (by decide) (by decide) (by decide) (by decide) (by decide) (by decide)⟩ ⟨by rw [hB8, if_neg (by decide)], by rw [hB8, if_neg (by decide)], by rw [hB8, if_neg (by decide)], hBo 158 (by decide) (by decide)⟩⟩, fun r hr => hAo r (by omega) (by omega) (by omega) (by omega) (by omega) (by omega), fun r hr => hBo r (by omega) (by omega)⟩
/-- a number of the realm's own: REST, LIMIT, TRACES -/
theorem tell_realm {A B : ZI} {n k c b q j x : Nat} (h0 : Inv5 A B n k c b) (h6 : pastIs A B n) (h7 : imgIs A B) (h8 : tapeIs A B) (hq : (q = 12 ∧ j = 49 ∧ x ≤ 24) ∨ (q = 13 ∧ j = 50 ∧ 1 ≤ x ∧ x ≤ 24) ∨ (q = 14 ∧ j = 56 ∧ x ≤ 200) ∨ (q = 15 ∧ j = 57 ∧ x ≤ 200)) :
    Inv2 (zs (zs A 0 5 0) 1 q (znn x)) (zs (zs B 149 j (znn x)) 148 4 0) ∧ (∀ o, 148 ≤ o → (zs (zs A 0 5 0) 1 q (znn x)) o = A o) ∧ ∀ o, o < 148 → (zs (zs B 149 j (znn x)) 148 4 0) o = B o := by
  obtain ⟨h1, h2, h3, h4, h5⟩ := id h0
  have hn10 := h2.1.1
  have hj : j = 49 ∨ j = 50 ∨ j = 56 ∨ j = 57 := by omega
  have hrow : ∀ i, (zs (zs B 149 j (znn x)) 148 4 0) 149 i = if i = j then znn x else B 149 i := fun i => by rw [zs_ap, if_neg (by decide), zs_ap, if_pos rfl, upd_ap]
  have hlow : ∀ i, i ≠ j → (zs (zs B 149 j (znn x)) 148 4 0) 149 i = B 149 i := fun i hi => by rw [hrow, if_neg hi]
  have hA1 : ∀ i, (zs (zs A 0 5 0) 1 q (znn x)) 1 i = if i = q then znn x else A 1 i := fun i => by rw [zs_sm, zs_df (by decide)]
  have hAo : ∀ r, r ≠ 0 → r ≠ 1 → (zs (zs A 0 5 0) 1 q (znn x)) r = A r := fun r a b => by rw [zs_ap, if_neg b, zs_ap, if_neg a]
  obtain ⟨⟨⟨b1, b2, b3, b4, b5⟩, b6⟩, -⟩ := id h1
  obtain ⟨⟨-, p2, p3, p4, p5, p6, p7, p8⟩, -⟩ := id h2
  refine tell_eq h0 h6 h7 h8 (fun r a b _ _ _ _ => hAo r a b) (fun i => by rw [zs_ap, if_neg (by decide), zs_ap, if_pos rfl, upd_ap]) (fun o a b => by rw [zs_ap, if_neg a, zs_ap, if_neg b]) (fun i => by rw [zs_sm, zs_df (by decide)]) (fun i q1 q2 q3 q4 q5 q6 q7 => hlow i (by omega)) ?_ ?_ (momIs_row (momIs_of h3 (fun r a b => hAo r (by omega) (by omega))) hn10 (fun i hi => hlow i (by omega))) (momOk_row h4 hn10 (fun i hi => hlow i (by omega)))
  · refine ⟨?_, fun p hp => ?_⟩
    · rw [hA1, hA1, hA1, hA1, hA1, hrow, hrow, hrow, hrow, hrow]
      rcases hq with ⟨rfl, rfl, -⟩ | ⟨rfl, rfl, -⟩ | ⟨rfl, rfl, -⟩ | ⟨rfl, rfl, -⟩ <;> simp only [↓reduceIte, Nat.reduceEqDiff] <;> simp only [b1, b2, b3, b4, b5, and_self]
    · rw [hAo _ (by omega) (by omega), hAo _ (by omega) (by omega), hAo _ (by omega) (by omega), hlow _ (by omega), hlow _ (by omega), hlow _ (by omega)]
      exact b6 p hp
  · refine ⟨hn10, by rw [hlow _ (by omega)]; exact p2, ?_, ?_, ?_, ?_, ?_, fun p hp => by rw [hlow _ (by omega), hlow _ (by omega), hlow _ (by omega)]; exact p8 p hp⟩
    · by_cases h : 49 = j
      · rw [hrow, if_pos h]; exact ⟨x, by omega, rfl⟩
      · rw [hlow _ h]; exact p3
    · by_cases h : 50 = j
      · rw [hrow, if_pos h]; exact ⟨x, by omega, by omega, rfl⟩
      · rw [hlow _ h]; exact p4
    · by_cases h : 56 = j
      · rw [hrow, if_pos h]; exact ⟨x, by omega, rfl⟩
      · rw [hlow _ h]; exact p5
    · by_cases h : 57 = j
      · rw [hrow, if_pos h]; exact ⟨x, by omega, rfl⟩
      · rw [hlow _ h]; exact p6
    · rw [hlow _ (by omega), p7]
      congr 1
      exact (voiceN_P n (fun p hp => hlow _ (by omega))).symm
/-- NEED or BY of a PERSON -/
theorem tell_person {A B : ZI} {n k c b o d p x : Nat} (h0 : Inv5 A B n k c b) (h6 : pastIs A B n) (h7 : imgIs A B) (h8 : tapeIs A B) (hp : p < n) (hq : (o = 37 ∧ d = 60 ∧ x ≤ 24) ∨ (o = 38 ∧ d = 70 ∧ x ≤ 999)) :
    Inv2 (zs (zs A 0 5 0) o p (znn x)) (zs (zs B 149 (d + p) (znn x)) 148 4 0) ∧ (∀ r, 148 ≤ r → (zs (zs A 0 5 0) o p (znn x)) r = A r) ∧ ∀ r, r < 148 → (zs (zs B 149 (d + p) (znn x)) 148 4 0) r = B r := by
  obtain ⟨h1, h2, h3, h4, h5⟩ := id h0
  have hn10 := h2.1.1
  have ho : o = 37 ∨ o = 38 := by omega
  have hd : d = 60 ∨ d = 70 := by omega
  have hrow : ∀ i, (zs (zs B 149 (d + p) (znn x)) 148 4 0) 149 i = if i = d + p then znn x else B 149 i := fun i => by rw [zs_ap, if_neg (by decide), zs_ap, if_pos rfl, upd_ap]
  have hlow : ∀ i, i ≠ d + p → (zs (zs B 149 (d + p) (znn x)) 148 4 0) 149 i = B 149 i := fun i hi => by rw [hrow, if_neg hi]
  have hAo : ∀ r, r ≠ 0 → r ≠ o → (zs (zs A 0 5 0) o p (znn x)) r = A r := fun r a b => by rw [zs_ap, if_neg b, zs_ap, if_neg a]
  have hAp : ∀ i, (zs (zs A 0 5 0) o p (znn x)) o i = if i = p then znn x else A o i := fun i => by rw [zs_sm, zs_df (by omega)]
  obtain ⟨⟨⟨b1, b2, b3, b4, b5⟩, b6⟩, -⟩ := id h1
  obtain ⟨⟨-, p2, p3, p4, p5, p6, p7, p8⟩, -⟩ := id h2
  refine tell_eq h0 h6 h7 h8 (fun r a _ _ _ b c => hAo r a (by omega)) (fun i => by rw [zs_ap, if_neg (by omega), zs_ap, if_pos rfl, upd_ap]) (fun r a b => by rw [zs_ap, if_neg a, zs_ap, if_neg b]) (fun i => by rw [zs_sm, zs_df (by decide)]) (fun i q1 q2 q3 q4 q5 q6 q7 => hlow i (by omega)) ?_ ?_ (momIs_row (momIs_of h3 (fun r a b => hAo r (by omega) (by omega))) hn10 (fun i hi => hlow i (by omega))) (momOk_row h4 hn10 (fun i hi => hlow i (by omega)))
  · refine ⟨by rw [hAo 1 (by decide) (by omega), hlow _ (by omega), hlow _ (by omega), hlow _ (by omega), hlow _ (by omega), hlow _ (by omega)]; exact ⟨b1, b2, b3, b4, b5⟩, fun r hr => ?_⟩
    obtain ⟨e1, e2, e3⟩ := b6 r hr
    show (zs (zs A 0 5 0) o p (znn x)) 37 r = _ ∧ (zs (zs A 0 5 0) o p (znn x)) 38 r = _ ∧ (zs (zs A 0 5 0) o p (znn x)) 39 r = _
    rw [hAo 39 (by decide) (by omega), hlow (80 + r) (by omega)]
    rcases hq with ⟨rfl, rfl, -⟩ | ⟨rfl, rfl, -⟩
    · rw [hAp, hAo 38 (by decide) (by decide), hlow (70 + r) (by omega), hrow]
      refine ⟨?_, e2, e3⟩
      by_cases hrp : r = p
      · rw [if_pos hrp, if_pos (by omega)]
      · rw [if_neg hrp, if_neg (by omega)]; exact e1
    · rw [hAp, hAo 37 (by decide) (by decide), hlow (60 + r) (by omega), hrow]
      refine ⟨e1, ?_, e3⟩
      by_cases hrp : r = p
      · rw [if_pos hrp, if_pos (by omega)]
      · rw [if_neg hrp, if_neg (by omega)]; exact e2
  · refine ⟨hn10, by rw [hlow _ (by omega)]; exact p2, by rw [hlow _ (by omega)]; exact p3, by rw [hlow _ (by omega)]; exact p4, by rw [hlow _ (by omega)]; exact p5, by rw [hlow _ (by omega)]; exact p6, ?_, fun r hr => ?_⟩
    · rw [hlow _ (by omega), p7]
      congr 1
      exact (voiceN_P n (fun p hp => hlow _ (by omega))).symm
    · obtain ⟨g1, g2, g3⟩ := p8 r hr
      refine ⟨?_, ?_, by rw [hlow _ (by omega)]; exact g3⟩
      · by_cases h : 60 + r = d + p
        · rw [hrow, if_pos h]; exact ⟨x, by omega, rfl⟩
        · rw [hlow _ h]; exact g1
      · by_cases h : 70 + r = d + p
        · rw [hrow, if_pos h]; exact ⟨x, by omega, rfl⟩
        · rw [hlow _ h]; exact g2
/-- WEAR -/
theorem tell_wear {A B : ZI} {n k c b x : Nat} (h0 : Inv5 A B n k c b) (h6 : pastIs A B n) (h7 : imgIs A B) (h8 : tapeIs A B) (hx : x ≤ 24) :
    Inv2 (zs (zs A 0 5 0) 2 4 (znn x)) (zs (zs B 149 1 (znn x)) 148 4 0) ∧ (∀ r, 148 ≤ r → (zs (zs A 0 5 0) 2 4 (znn x)) r = A r) ∧ ∀ r, r < 148 → (zs (zs B 149 1 (znn x)) 148 4 0) r = B r := by
  obtain ⟨h1, h2, h3, h4, h5⟩ := id h0
  have hn10 := h2.1.1
  have hrow : ∀ i, (zs (zs B 149 1 (znn x)) 148 4 0) 149 i = if i = 1 then znn x else B 149 i := fun i => by rw [zs_ap, if_neg (by decide), zs_ap, if_pos rfl, upd_ap]
  have hlow : ∀ i, i ≠ 1 → (zs (zs B 149 1 (znn x)) 148 4 0) 149 i = B 149 i := fun i hi => by rw [hrow, if_neg hi]
  have hAo : ∀ r, r ≠ 0 → r ≠ 2 → (zs (zs A 0 5 0) 2 4 (znn x)) r = A r := fun r a b => by rw [zs_ap, if_neg b, zs_ap, if_neg a]
  have hF : rowF (B 149) ((zs (zs B 149 1 (znn x)) 148 4 0) 149) := fun i a _ => hlow i (by omega)
  have hf := fixIs_row hF h2 (fixIs_of (M := A) (M' := zs (zs A 0 5 0) 2 4 (znn x)) h1 (fun r hr => hAo r (by omega) (by omega)))
  refine tell_eq h0 h6 h7 h8 (fun r a _ b _ _ _ => hAo r a b) (fun i => by rw [zs_ap, if_neg (by decide), zs_ap, if_pos rfl, upd_ap]) (fun r a b => by rw [zs_ap, if_neg a, zs_ap, if_neg b]) (fun i => by rw [zs_sm, zs_df (by decide)]) (fun i q1 q2 q3 q4 q5 q6 q7 => hlow i (by omega)) hf.1 (fixOk_row hF h2).1 ?_ ?_
  · obtain ⟨⟨m1, m2, m3, m4, m5, m6, m7⟩, m8⟩ := h3
    refine ⟨?_, fun p hp => ?_⟩
    · simp only [zs_ap, upd_ap, Nat.reduceEqDiff, ↓reduceIte]
      exact ⟨trivial, m2, m3, m4, m5, m6, m7⟩
    · rw [hAo _ (by omega) (by omega), hAo _ (by omega) (by omega), hAo _ (by omega) (by omega), hAo _ (by omega) (by omega), hlow _ (by omega), hlow _ (by omega), hlow _ (by omega), hlow _ (by omega)]
      exact m8 p hp
  · obtain ⟨p1, ⟨y, p2, p3, p4⟩, p5, p6, p7⟩ := h4
    exact ⟨⟨x, hx, by rw [hrow, if_pos rfl]⟩, ⟨y, p2, by rw [hlow _ (by decide)]; exact p3, fun p hp => by rw [hlow _ (by omega)]; exact p4 p hp⟩, by rw [hlow _ (by decide)]; exact p5, by rw [hlow _ (by decide)]; exact p6, fun p hp => by rw [hlow _ (by omega), hlow _ (by omega)]; exact p7 p hp⟩
/-- AGE of a PERSON -/
theorem tell_age {A B : ZI} {n k c b p x : Nat} (h0 : Inv5 A B n k c b) (h6 : pastIs A B n) (h7 : imgIs A B) (h8 : tapeIs A B) (hp : p < n) (hx : x ≤ 99) :
    Inv2 (zs (zs A 0 5 0) 3 p (znn x)) (zs (zs B 149 (17 + p) (znn x)) 148 4 0) ∧ (∀ r, 148 ≤ r → (zs (zs A 0 5 0) 3 p (znn x)) r = A r) ∧ ∀ r, r < 148 → (zs (zs B 149 (17 + p) (znn x)) 148 4 0) r = B r := by
  obtain ⟨h1, h2, h3, h4, h5⟩ := id h0
  have hn10 := h2.1.1
  have hrow : ∀ i, (zs (zs B 149 (17 + p) (znn x)) 148 4 0) 149 i = if i = 17 + p then znn x else B 149 i := fun i => by rw [zs_ap, if_neg (by decide), zs_ap, if_pos rfl, upd_ap]
  have hlow : ∀ i, i ≠ 17 + p → (zs (zs B 149 (17 + p) (znn x)) 148 4 0) 149 i = B 149 i := fun i hi => by rw [hrow, if_neg hi]
  have hAo : ∀ r, r ≠ 0 → r ≠ 3 → (zs (zs A 0 5 0) 3 p (znn x)) r = A r := fun r a b => by rw [zs_ap, if_neg b, zs_ap, if_neg a]
  have hAp : ∀ i, (zs (zs A 0 5 0) 3 p (znn x)) 3 i = if i = p then znn x else A 3 i := fun i => by rw [zs_sm, zs_df (by decide)]
  have hF : rowF (B 149) ((zs (zs B 149 (17 + p) (znn x)) 148 4 0) 149) := fun i a _ => hlow i (by omega)
  have hf := fixIs_row hF h2 (fixIs_of (M := A) (M' := zs (zs A 0 5 0) 3 p (znn x)) h1 (fun r hr => hAo r (by omega) (by omega)))
  refine tell_eq h0 h6 h7 h8 (fun r a _ _ b _ _ => hAo r a b) (fun i => by rw [zs_ap, if_neg (by decide), zs_ap, if_pos rfl, upd_ap]) (fun r a b => by rw [zs_ap, if_neg a, zs_ap, if_neg b]) (fun i => by rw [zs_sm, zs_df (by decide)]) (fun i q1 q2 q3 q4 q5 q6 q7 => hlow i (by omega)) hf.1 (fixOk_row hF h2).1 ?_ ?_
  · obtain ⟨m0, m8⟩ := h3
    refine ⟨by rw [hAo 2 (by decide) (by decide), hlow _ (by omega), hlow _ (by omega), hlow _ (by omega), hlow _ (by omega), hlow _ (by omega), hlow _ (by omega), hlow _ (by omega)]; exact m0, fun r hr => ?_⟩
    obtain ⟨e1, e2⟩ := m8 r hr
    rw [hAo (2 + 2) (by decide) (by decide), hAo (2 + 3) (by decide) (by decide), hAo (2 + 4) (by decide) (by decide), hlow (27 + r) (by omega), hlow (37 + r) (by omega), hlow (7 + r) (by omega), show (2 : Nat) + 1 = 3 from rfl, hAp, hrow]
    refine ⟨?_, e2⟩
    by_cases hrp : r = p
    · rw [if_pos hrp, if_pos (by omega)]
    · rw [if_neg hrp, if_neg (by omega)]; exact e1
  · obtain ⟨p1, ⟨y, p2, p3, p4⟩, p5, p6, p7⟩ := h4
    refine ⟨by rw [hlow _ (by omega)]; exact p1, ⟨y, p2, by rw [hlow _ (by omega)]; exact p3, fun p hp => by rw [hlow _ (by omega)]; exact p4 p hp⟩, by rw [hlow _ (by omega)]; exact p5, by rw [hlow _ (by omega)]; exact p6, fun r hr => ?_⟩
    rw [hlow (7 + r) (by omega)]
    refine ⟨?_, (p7 r hr).2⟩
    by_cases h : 17 + r = 17 + p
    · rw [hrow, if_pos h]; exact ⟨x, hx, rfl⟩
    · rw [hlow _ h]; exact (p7 r hr).1
theorem sync_set (x y z : Int32) : sync (f15_set x y z) (f150_set x y z) := by
  rintro A B ⟨n, k, c, b, h0, h6, h7, h8⟩
  have hI : Inv2 A B := ⟨n, k, c, b, h0, h6, h7, h8⟩
  have hn10 := h0.2.1.1.1
  -- refused
  have no : f16_canBeSet x y z A = some 0 → f151_canSet x y z B = some 0 → ∃ v A' B', f15_set x y z A = some (v, A') ∧ f150_set x y z B = some (v, B') ∧ Inv2 A' B' ∧ (∀ o, 148 ≤ o → A' o = A o) ∧ ∀ o, o < 148 → B' o = B o := fun e1 e2 =>
    sync_same (v := 0) hI (by unfold f15_set; rw [e1]; rfl) (by unfold f150_set; rw [e2]; rfl)
  have yes : ∀ (o q j : Nat), j < 2000 → f16_canBeSet x y z A = some 1 → f151_canSet x y z B = some 1 → f153_placeOf x y = some (znn j) → f15_set x y z A = some (1, zs (zs A 0 5 0) o q z) → (Inv2 (zs (zs A 0 5 0) o q z) (zs (zs B 149 j z) 148 4 0) ∧ (∀ r, 148 ≤ r → (zs (zs A 0 5 0) o q z) r = A r) ∧ ∀ r, r < 148 → (zs (zs B 149 j z) 148 4 0) r = B r) → ∃ v A' B', f15_set x y z A = some (v, A') ∧ f150_set x y z B = some (v, B') ∧ Inv2 A' B' ∧ (∀ o, 148 ≤ o → A' o = A o) ∧ ∀ o, o < 148 → B' o = B o := by
    intro o q j hj2 e1 e2 e3 e4 hI'
    refine ⟨1, _, zs (zs B 149 j z) 148 4 0, e4, ?_, hI'⟩
    unfold f150_set
    rw [e2, e3]
    simp only [Option.bind_some]
    rw [if_neg (by decide), if_pos ((zn_zin (by omega)).mpr (by omega)), zn_zi (by omega)]
    rfl
  have cs : ∀ v : Int32, f16_canBeSet x y z A = some v → f15_set x y z A = (if v = 0 then some ((0 : Int32), A) else (f11_forgetPasts A).bind fun M2 => (if x = (0 : Int32) then zlet (zs M2 2 4 z) fun (M3 : ZI) => some ((1 : Int32), M3) else if x = (1 : Int32) then zlet (zs M2 1 12 z) fun (M4 : ZI) => some ((1 : Int32), M4) else if x = (2 : Int32) then zlet (zs M2 1 13 z) fun (M5 : ZI) => some ((1 : Int32), M5) else if x = (3 : Int32) then if zin y 10 = true then zlet (zs M2 37 (zi y) z) fun (M6 : ZI) => some ((1 : Int32), M6) else none else if x = (4 : Int32) then if zin y 10 = true then zlet (zs M2 38 (zi y) z) fun (M7 : ZI) => some ((1 : Int32), M7) else none else if zin y 10 = true then zlet (zs M2 3 (zi y) z) fun (M8 : ZI) => some ((1 : Int32), M8) else none)) := fun v hv => by
    unfold f15_set; rw [hv]; rfl
  by_cases c0 : x = 0
  · subst c0
    rcases within_ex (x := z) (lo := 0) (hi := 24) (by decide) (by decide) with ⟨u, -, hu, rfl, e1, e2⟩ | ⟨e1, e2⟩
    · have g1 : f16_canBeSet 0 y (znn u) A = some 1 := by unfold f16_canBeSet; rw [if_pos rfl, show f13_within (znn u) 0 24 = some 1 from e1]; rfl
      have g2 : f151_canSet 0 y (znn u) B = some 1 := by unfold f151_canSet; rw [if_pos rfl, show f149_isIn (znn u) 0 24 = some 1 from e2]; rfl
      exact yes 2 4 1 (by decide) g1 g2 rfl (by rw [cs 1 g1]; rfl) (tell_wear h0 h6 h7 h8 hu)
    · exact no (by unfold f16_canBeSet; rw [if_pos rfl, show f13_within z 0 24 = some 0 from e1]; rfl) (by unfold f151_canSet; rw [if_pos rfl, show f149_isIn z 0 24 = some 0 from e2]; rfl)
  by_cases c1 : x = 1
  · subst c1
    rcases within_ex (x := z) (lo := 0) (hi := 24) (by decide) (by decide) with ⟨u, -, hu, rfl, e1, e2⟩ | ⟨e1, e2⟩
    · have g1 : f16_canBeSet 1 y (znn u) A = some 1 := by unfold f16_canBeSet; rw [if_neg (by decide), if_pos rfl, show f13_within (znn u) 0 24 = some 1 from e1]; rfl
      have g2 : f151_canSet 1 y (znn u) B = some 1 := by unfold f151_canSet; rw [if_neg (by decide), if_pos rfl, show f149_isIn (znn u) 0 24 = some 1 from e2]; rfl
      exact yes 1 12 49 (by decide) g1 g2 rfl (by rw [cs 1 g1]; rfl) (tell_realm h0 h6 h7 h8 (Or.inl ⟨rfl, rfl, hu⟩))
    · exact no (by unfold f16_canBeSet; rw [if_neg (by decide), if_pos rfl, show f13_within z 0 24 = some 0 from e1]; rfl) (by unfold f151_canSet; rw [if_neg (by decide), if_pos rfl, show f149_isIn z 0 24 = some 0 from e2]; rfl)
  by_cases c2 : x = 2
  · subst c2
    rcases within_ex (x := z) (lo := 1) (hi := 24) (by decide) (by decide) with ⟨u, hu1, hu, rfl, e1, e2⟩ | ⟨e1, e2⟩
    · have g1 : f16_canBeSet 2 y (znn u) A = some 1 := by unfold f16_canBeSet; rw [if_neg (by decide), if_neg (by decide), if_pos rfl, show f13_within (znn u) 1 24 = some 1 from e1]; rfl
      have g2 : f151_canSet 2 y (znn u) B = some 1 := by unfold f151_canSet; rw [if_neg (by decide), if_neg (by decide), if_pos rfl, show f149_isIn (znn u) 1 24 = some 1 from e2]; rfl
      exact yes 1 13 50 (by decide) g1 g2 rfl (by rw [cs 1 g1]; rfl) (tell_realm h0 h6 h7 h8 (Or.inr (Or.inl ⟨rfl, rfl, hu1, hu⟩)))
    · exact no (by unfold f16_canBeSet; rw [if_neg (by decide), if_neg (by decide), if_pos rfl, show f13_within z 1 24 = some 0 from e1]; rfl) (by unfold f151_canSet; rw [if_neg (by decide), if_neg (by decide), if_pos rfl, show f149_isIn z 1 24 = some 0 from e2]; rfl)
  by_cases c35 : x = 3 ∨ x = 4 ∨ x = 5
  · -- of a PERSON
    have hi : ∃ hi, hi ≤ 999 ∧ (x = 3 → hi = 24) ∧ (x = 4 → hi = 999) ∧ (x = 5 → hi = 99) ∧ f16_canBeSet x y z A = ((f17_has 1 y A).bind fun v => if v = 0 then some 0 else (f13_within z (znn 0) (znn hi)).bind fun v5 => if v5 = 0 then some 0 else some 1) ∧ f151_canSet x y z B = ((f152_isPerson y B).bind fun v => if v = 0 then some 0 else (f149_isIn z (znn 0) (znn hi)).bind fun v5 => if v5 = 0 then some 0 else some 1) := by
      rcases c35 with rfl | rfl | rfl
      · exact ⟨24, by decide, fun _ => rfl, fun h => absurd h (by decide), fun h => absurd h (by decide), rfl, rfl⟩
      · exact ⟨999, by decide, fun h => absurd h (by decide), fun _ => rfl, fun h => absurd h (by decide), rfl, rfl⟩
      · exact ⟨99, by decide, fun h => absurd h (by decide), fun h => absurd h (by decide), fun _ => rfl, rfl, rfl⟩
    obtain ⟨hi, hhi, hi3, hi4, hi5, E1, E2⟩ := hi
    rcases has_eq h0 y with ⟨p, hp, rfl, e1, e2⟩ | ⟨e1, e2⟩
    · rw [e1] at E1
      rw [e2] at E2
      rcases within_ex (x := z) (lo := 0) (hi := hi) (by decide) (by omega) with ⟨u, -, hu, rfl, e3, e4⟩ | ⟨e3, e4⟩
      · rw [e3] at E1
        rw [e4] at E2
        have g1 : f16_canBeSet x (znn p) (znn u) A = some 1 := E1
        have g2 : f151_canSet x (znn p) (znn u) B = some 1 := E2
        have hz : zin (znn p) 10 = true := (zn_zin (by omega)).mpr (by omega)
        have zz : zi (znn p) = p := zn_zi (by omega)
        rcases c35 with rfl | rfl | rfl
        · have := hi3 rfl
          exact yes 37 p (60 + p) (by omega) g1 g2 (by unfold f153_placeOf; rw [if_neg (by decide), if_neg (by decide), if_neg (by decide), if_pos rfl]; exact congrArg some (zn_add 60 p)) (by rw [cs 1 g1, if_neg (by decide)]; simp only [f11_forgetPasts, zlet, Option.bind_some]; rw [if_neg (by decide), if_neg (by decide), if_neg (by decide), if_pos trivial, if_pos hz, zz]) (tell_person h0 h6 h7 h8 hp (Or.inl ⟨rfl, rfl, by omega⟩))
        · have := hi4 rfl
          exact yes 38 p (70 + p) (by omega) g1 g2 (by unfold f153_placeOf; rw [if_neg (by decide), if_neg (by decide), if_neg (by decide), if_neg (by decide), if_pos rfl]; exact congrArg some (zn_add 70 p)) (by rw [cs 1 g1, if_neg (by decide)]; simp only [f11_forgetPasts, zlet, Option.bind_some]; rw [if_neg (by decide), if_neg (by decide), if_neg (by decide), if_neg (by decide), if_pos trivial, if_pos hz, zz]) (tell_person h0 h6 h7 h8 hp (Or.inr ⟨rfl, rfl, by omega⟩))
        · have := hi5 rfl
          exact yes 3 p (17 + p) (by omega) g1 g2 (by unfold f153_placeOf; rw [if_neg (by decide), if_neg (by decide), if_neg (by decide), if_neg (by decide), if_neg (by decide)]; exact congrArg some (zn_add 17 p)) (by rw [cs 1 g1, if_neg (by decide)]; simp only [f11_forgetPasts, zlet, Option.bind_some]; rw [if_neg (by decide), if_neg (by decide), if_neg (by decide), if_neg (by decide), if_neg (by decide), if_pos hz, zz]) (tell_age h0 h6 h7 h8 hp (by omega))
      · rw [e3] at E1
        rw [e4] at E2
        exact no E1 E2
    · rw [e1] at E1
      rw [e2] at E2
      exact no E1 E2
  · have c3 : ¬ x = 3 := fun h => c35 (Or.inl h)
    have c4 : ¬ x = 4 := fun h => c35 (Or.inr (Or.inl h))
    have c5 : ¬ x = 5 := fun h => c35 (Or.inr (Or.inr h))
    exact no (by unfold f16_canBeSet; rw [if_neg c0, if_neg c1, if_neg c2, if_neg c3, if_neg c4, if_neg c5]) (by unfold f151_canSet; rw [if_neg c0, if_neg c1, if_neg c2, if_neg c3, if_neg c4, if_neg c5])
theorem sync_traces (x y : Int32) : sync (f108_traces x y) (f250_traces x y) := by
  rintro A B ⟨n, k, c, b, h0, h6, h7, h8⟩
  have hI : Inv2 A B := ⟨n, k, c, b, h0, h6, h7, h8⟩
  rcases within_ex (x := x) (lo := 0) (hi := 200) (by decide) (by decide) with ⟨u, -, hu, rfl, e1, e2⟩ | ⟨e1, e2⟩
  case inr => exact sync_same (v := 0) hI (by unfold f108_traces; rw [show f13_within x 0 200 = some 0 from e1]; rfl) (by unfold f250_traces; rw [show f149_isIn x 0 200 = some 0 from e2]; rfl)
  rcases within_ex (x := y) (lo := 0) (hi := 200) (by decide) (by decide) with ⟨v, -, hv, rfl, e3, e4⟩ | ⟨e3, e4⟩
  case inr => exact sync_same (v := 0) hI (by unfold f108_traces; rw [show f13_within (znn u) 0 200 = some 1 from e1, show f13_within y 0 200 = some 0 from e3]; rfl) (by unfold f250_traces; rw [show f149_isIn (znn u) 0 200 = some 1 from e2, show f149_isIn y 0 200 = some 0 from e4]; rfl)
  obtain ⟨g1, g2, g3⟩ := tell_realm (q := 14) (j := 56) (x := u) h0 h6 h7 h8 (Or.inr (Or.inr (Or.inl ⟨rfl, rfl, hu⟩)))
  obtain ⟨n', k', c', b', i0, i6, i7, i8⟩ := g1
  obtain ⟨j1, j2, j3⟩ := tell_realm (q := 15) (j := 57) (x := v) i0 i6 i7 i8 (Or.inr (Or.inr (Or.inr ⟨rfl, rfl, hv⟩)))
  refine ⟨1, zs (zs (zs A 0 5 0) 1 14 (znn u)) 1 15 (znn v), zs (zs (zs B 149 56 (znn u)) 149 57 (znn v)) 148 4 0, ?_, ?_, Inv2_of j1 (fun o ho => ?_) (fun o ho => ?_), fun o ho => by rw [zs_ap, if_neg (by omega), zs_ap, if_neg (by omega), zs_ap, if_neg (by omega)], fun o ho => by rw [zs_ap, if_neg (by omega), zs_ap, if_neg (by omega), zs_ap, if_neg (by omega)]⟩
  · unfold f108_traces; rw [show f13_within (znn u) 0 200 = some 1 from e1, show f13_within (znn v) 0 200 = some 1 from e3]; rfl
  · unfold f250_traces; rw [show f149_isIn (znn u) 0 200 = some 1 from e2, show f149_isIn (znn v) 0 200 = some 1 from e4]; rfl
  · funext i
    simp only [zs_ap, upd_ap]
    by_cases h1 : o = 1
    · subst h1; simp only [↓reduceIte, Nat.reduceEqDiff]
    · by_cases h0' : o = 0
      · subst h0'
        simp only [↓reduceIte, Nat.reduceEqDiff]
        simp only [upd_ap]
        split <;> rfl
      · simp only [if_neg h1, if_neg h0']
  · funext i
    simp only [zs_ap, upd_ap]
    by_cases h1 : o = 148
    · subst h1
      simp only [↓reduceIte, Nat.reduceEqDiff]
      simp only [upd_ap]
      split <;> rfl
    · by_cases h0' : o = 149
      · subst h0'
        simp only [↓reduceIte, Nat.reduceEqDiff]
      · simp only [if_neg h1, if_neg h0']
