theorem row_back {B : ZI} : ∃ B', f265_l15 0 zfu 0 B = some B' ∧ (∀ o, o ≠ 149 → B' o = B o) ∧ ∀ j, j < 2064 → B' 149 j = B 150 j := by
  obtain ⟨r, g1, g2, g3⟩ := zloop (fun f (a : ZI) c => f265_l15 0 f c a) 2064 (fun i a => (∀ o, o ≠ 149 → a o = B o) ∧ ∀ j, j < i → a 149 j = B 150 j) (fun a => (∀ o, o ≠ 149 → a o = B o) ∧ ∀ j, j < 2064 → a 149 j = B 150 j) (fun f i a hi ha => by
    obtain ⟨q1, q2⟩ := ha
    left
    (try dsimp only)
    have hz : zin (znn i) 2064 = true := (zn_zin (by omega)).mpr hi
    have e150 := q1 150 (by decide)
    rw [f265_l15, if_pos (show znn i < 2064 by rw [zl2064, zn_lt (by omega) (by decide)]; exact hi), if_pos rfl, if_pos hz, if_pos hz, zn_zi (by omega), zadd1, e150]
    refine ⟨zs a 149 i (B 150 i), ⟨fun o ho => by rw [zs_df ho]; exact q1 o ho, fun j hj => ?_⟩, rfl⟩
    rw [zs_sm]
    by_cases hji : j = i
    · rw [if_pos hji, hji]
    · rw [if_neg hji]
      exact q2 j (by omega)) (fun f a ha => by
    refine ⟨a, ha, ?_⟩
    (try dsimp only)
    rw [f265_l15, if_neg (show ¬ znn 2064 < 2064 by rw [zl2064, zn_lt (by decide) (by decide)]; omega)]) zfu 0 B (by omega) (by rw [zfu_eq]; omega) ⟨fun _ _ => rfl, fun j hj => by omega⟩
  exact ⟨r, g1, g2, g3⟩
theorem row_away {B : ZI} {x : Int32} (hx : ¬ x = 0) : ∃ B', f265_l15 x zfu 0 B = some B' ∧ (∀ o, o ≠ 150 → B' o = B o) ∧ ∀ j, j < 2064 → B' 150 j = B 149 j := by
  obtain ⟨r, g1, g2, g3⟩ := zloop (fun f (a : ZI) c => f265_l15 x f c a) 2064 (fun i a => (∀ o, o ≠ 150 → a o = B o) ∧ ∀ j, j < i → a 150 j = B 149 j) (fun a => (∀ o, o ≠ 150 → a o = B o) ∧ ∀ j, j < 2064 → a 150 j = B 149 j) (fun f i a hi ha => by
    obtain ⟨q1, q2⟩ := ha
    left
    (try dsimp only)
    have hz : zin (znn i) 2064 = true := (zn_zin (by omega)).mpr hi
    have e149 := q1 149 (by decide)
    rw [f265_l15, if_pos (show znn i < 2064 by rw [zl2064, zn_lt (by omega) (by decide)]; exact hi), if_neg hx, if_pos hz, if_pos hz, zn_zi (by omega), zadd1, e149]
    refine ⟨zs a 150 i (B 149 i), ⟨fun o ho => by rw [zs_df ho]; exact q1 o ho, fun j hj => ?_⟩, rfl⟩
    rw [zs_sm]
    by_cases hji : j = i
    · rw [if_pos hji, hji]
    · rw [if_neg hji]
      exact q2 j (by omega)) (fun f a ha => by
    refine ⟨a, ha, ?_⟩
    (try dsimp only)
    rw [f265_l15, if_neg (show ¬ znn 2064 < 2064 by rw [zl2064, zn_lt (by decide) (by decide)]; omega)]) zfu 0 B (by omega) (by rw [zfu_eq]; omega) ⟨fun _ _ => rfl, fun j hj => by omega⟩
  exact ⟨r, g1, g2, g3⟩
theorem sync_image (x : Int32) : sync (f139_image x) (f265_image x) := by
  rintro A B ⟨n, k, c, b, h0, h6, h7, h8⟩
  have hI : Inv2 A B := ⟨n, k, c, b, h0, h6, h7, h8⟩
  obtain ⟨i1, i2⟩ := id h7
  by_cases hx : x = 0
  · subst hx
    rcases i2 with i2 | ⟨i2, n', k', c', b', f1, f2, f3, f4, f5⟩
    · exact sync_same (v := 0) hI (by unfold f139_image; rw [if_pos rfl, if_pos i2]) (by unfold f265_image; rw [zlet_e, if_pos rfl, if_pos (i1.symm.trans i2)])
    have hn10 := f2.1.1
    obtain ⟨A1, a1, a2, a3, a4, a5⟩ := cp_realm (t := 1) (a := 42) (by omega) f1 f2 f3 f5
    obtain ⟨B1, b1, b2, b3⟩ := row_back (B := B)
    have n0 : ¬ A 0 2 = 0 := by rw [i2]; decide
    have n1 : ¬ B 148 5 = 0 := by rw [← i1]; exact n0
    obtain ⟨g1, g2⟩ := fix_B b3 a2 f2
    have gA : ∀ o, o ≠ 0 → (zs A1 0 5 0) o = A1 o := fun o ho => zs_df ho
    have gA2 : ∀ o, o ≠ 0 → ¬ (1 ≤ o ∧ o ≤ 39) → (zs A1 0 5 0) o = A o := fun o ho h => (gA o ho).trans (a5 o (by omega))
    have gB : ∀ o, o ≠ 148 → (zs (zs B1 148 4 0) 148 5 1) o = B1 o := fun o ho => by rw [zs_df ho, zs_df ho]
    have gB2 : ∀ o, o ≠ 148 → o ≠ 149 → (zs (zs B1 148 4 0) 148 5 1) o = B o := fun o ho h => (gB o ho).trans (b2 o h)
    have e148 : ∀ j, (zs (zs B1 148 4 0) 148 5 1) 148 j = if j = 5 then 1 else if j = 4 then 0 else B 148 j := fun j => by rw [zs_sm, zs_sm, b2 148 (by decide)]
    have e0 : ∀ j, (zs A1 0 5 0) 0 j = if j = 5 then 0 else A 0 j := fun j => by rw [zs_sm, a5 0 (by omega)]
    have e149 : (zs (zs B1 148 4 0) 148 5 1) 149 = B1 149 := gB 149 (by decide)
    have e150 : (zs (zs B1 148 4 0) 148 5 1) 150 = B 150 := gB2 150 (by decide) (by decide)
    refine ⟨1, zs A1 0 5 0, zs (zs B1 148 4 0) 148 5 1, ?_, ?_, ⟨n', k', c', b', ?_, ?_, ?_, ?_⟩, fun o ho => gA2 o (by omega) (by omega), fun o ho => gB2 o (by omega) (by omega)⟩
    · unfold f139_image
      rw [if_pos rfl, if_neg n0, a1]
      rfl
    · unfold f265_image
      rw [zlet_e, if_pos rfl, if_neg n1, b1]
      rfl
    · unfold Inv5
      rw [e149]
      exact ⟨fixIs_of g1 (fun o ho => gA o (by omega)), g2, momIs_row (momIs_of a3 (fun o q1 q2 => gA o (by omega))) hn10 (fun j hj => b3 j (by omega)), momOk_row f4 hn10 (fun j hj => b3 j (by omega)), bookIs_row (bookIs_of a4 (fun o q1 q2 => gA o (by omega))) (fun j q1 q2 => b3 j (by omega))⟩
    · exact forget_past h6 (by rw [e0]; rfl) (by rw [e0]; rfl) (by rw [e148]; rfl)
    · unfold imgIs
      rw [e150, e0, e148]
      refine ⟨i2, Or.inr ⟨i2, n', k', c', b', fixIs_of f1 (fun o ho => gA2 o (by omega) (by omega)), f2, momIs_of f3 (fun o q1 q2 => gA2 o (by omega) (by omega)), f4, bookIs_of f5 (fun o q1 q2 => gA2 o (by omega) (by omega))⟩⟩
    · exact tapeIs_of h8 ⟨by rw [gA2 119 (by omega) (by omega)], by rw [gA2 119 (by omega) (by omega)], by rw [gA2 119 (by omega) (by omega)], gA2 120 (by omega) (by omega)⟩ ⟨by rw [e148]; rfl, by rw [e148]; rfl, by rw [e148]; rfl, gB2 158 (by decide) (by decide)⟩
  · obtain ⟨f1, f2, f3, f4, f5⟩ := id h0
    have hn10 := f2.1.1
    obtain ⟨A1, a1, a2, a3, a4, a5⟩ := cp_realm (t := 42) (a := 1) (by omega) f1 f2 f3 f5
    obtain ⟨B1, b1, b2, b3⟩ := row_away (B := B) hx
    obtain ⟨g1, g2⟩ := fix_B b3 a2 f2
    have gA : ∀ o, o ≠ 0 → (zs A1 0 2 1) o = A1 o := fun o ho => zs_df ho
    have gA2 : ∀ o, o ≠ 0 → ¬ (42 ≤ o ∧ o ≤ 80) → (zs A1 0 2 1) o = A o := fun o ho h => (gA o ho).trans (a5 o (by omega))
    have gB : ∀ o, o ≠ 148 → (zs B1 148 5 1) o = B1 o := fun o ho => by rw [zs_df ho]
    have gB2 : ∀ o, o ≠ 148 → o ≠ 150 → (zs B1 148 5 1) o = B o := fun o ho h => (gB o ho).trans (b2 o h)
    have e148 : ∀ j, (zs B1 148 5 1) 148 j = if j = 5 then 1 else B 148 j := fun j => by rw [zs_sm, b2 148 (by decide)]
    have e0 : ∀ j, (zs A1 0 2 1) 0 j = if j = 2 then 1 else A 0 j := fun j => by rw [zs_sm, a5 0 (by omega)]
    have e149 : (zs B1 148 5 1) 149 = B 149 := gB2 149 (by decide) (by decide)
    have e150 : (zs B1 148 5 1) 150 = B1 150 := gB 150 (by decide)
    refine ⟨1, zs A1 0 2 1, zs B1 148 5 1, ?_, ?_, ⟨n, k, c, b, ?_, ?_, ?_, ?_⟩, fun o ho => gA2 o (by omega) (by omega), fun o ho => gB2 o (by omega) (by omega)⟩
    · unfold f139_image
      rw [if_neg hx, a1]
      rfl
    · unfold f265_image
      rw [zlet_e, if_neg hx, b1, Option.bind_some, if_neg hx]
      rfl
    · unfold Inv5
      rw [e149]
      exact ⟨fixIs_of f1 (fun o ho => gA2 o (by omega) (by omega)), f2, momIs_of f3 (fun o q1 q2 => gA2 o (by omega) (by omega)), f4, bookIs_of f5 (fun o q1 q2 => gA2 o (by omega) (by omega))⟩
    · exact pastIs_of h6 ⟨by rw [e0]; rfl, by rw [e0]; rfl, fun o q1 q2 => gA2 o (by omega) (by omega)⟩ ⟨by rw [e148]; rfl, gB2 151 (by decide) (by decide)⟩
    · unfold imgIs
      rw [e150, e0, e148]
      refine ⟨rfl, Or.inr ⟨rfl, n, k, c, b, fixIs_of g1 (fun o ho => gA o (by omega)), g2, momIs_row (momIs_of a3 (fun o q1 q2 => gA o (by omega))) hn10 (fun j hj => b3 j (by omega)), momOk_row f4 hn10 (fun j hj => b3 j (by omega)), bookIs_row (bookIs_of a4 (fun o q1 q2 => gA o (by omega))) (fun j q1 q2 => b3 j (by omega))⟩⟩
    · exact tapeIs_of h8 ⟨by rw [gA2 119 (by omega) (by omega)], by rw [gA2 119 (by omega) (by omega)], by rw [gA2 119 (by omega) (by omega)], gA2 120 (by omega) (by omega)⟩ ⟨by rw [e148]; rfl, by rw [e148]; rfl, by rw [e148]; rfl, gB2 158 (by decide) (by decide)⟩
