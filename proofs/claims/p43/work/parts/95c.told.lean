-- ===== a told number of a WORK, read forward =====
theorem told_r {a t V lo hi r f v0 : Nat} {b : Nat → Nat} {B : ZI} {T : Int32} {y : Int32 × Nat} {l : List (Int32 × Nat)} (hb : tapB b t) (ha : a ≤ 3) (h17 : B 148 17 = znn r) (hr : r < 12) (hf : f < 6) (hP : pT a b t B ((T, v0) :: (2, V) :: y :: l)) (h1 : lo ≤ V) (h2 : V ≤ hi) (h3 : hi < 1000000) : ∃ B', f185_told (znn f) T (znn lo) (znn hi) B = some (1, B') ∧ pT a b t B' (y :: l) ∧ (∀ o, o ≠ 148 → o ≠ 156 → B' o = B o) ∧ (∀ j, B' 156 j = if j = 6 * r + f then znn V else B 156 j) ∧ ∀ j, j ≠ 20 → j ≠ 21 → j ≠ 22 → j ≠ 23 → j ≠ 29 → B' 148 j = B 148 j := by
  obtain ⟨B1, e1, e2, e3, e4⟩ := ps_next hb ha hP
  obtain ⟨B2, g1, g2, g3, g4, g5⟩ := num_r hb ha e2 h1 h2 h3
  have c17 : B2 148 17 = znn r := by rw [g5 17 (by decide) (by decide) (by decide) (by decide) (by decide), e4 17 (by decide) (by decide) (by decide) (by decide)]; exact h17
  have e6 : (6 : Int32) * znn r + znn f = znn (6 * r + f) := by rw [zl6, zn_mul, zn_add]
  refine ⟨zs B2 156 (6 * r + f) (znn V), ?_, pT_of g2 (zs_df (by decide)) (fun j _ => by rw [zs_df (by decide)]), fun o q1 q2 => by rw [zs_df q2, g4 o q1, e3 o q1], fun j => by rw [zs_sm, g4 156 (by decide), e3 156 (by decide)], fun j q1 q2 q3 q4 q5 => by rw [zs_df (by decide), g5 j q1 q2 q3 q4 q5, e4 j q1 q2 q3 q4]⟩
  unfold f185_told f179_need
  rw [show B 148 21 = T from hP.2.2.1, if_pos rfl, e1]
  simp only [Option.bind_some]
  rw [if_neg (by decide), g1]
  simp only [Option.bind_some]
  rw [if_neg (by decide), c17, e6, if_pos ((zn_zin (by omega)).mpr (by omega)), zn_zi (by omega), g3]
  rfl
