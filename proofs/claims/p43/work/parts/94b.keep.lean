-- ===== the reference keeps a row =====
theorem keeps_r {B : ZI} {m : Nat} (hm : m ≤ 6) (h4 : B 148 4 = znn m) : ∃ B' m', f200_keeps B = some B' ∧ m' = (if m = 6 then 6 else m + 1) ∧ B' 148 4 = znn m' ∧ (∀ o, o ≠ 148 → o ≠ 151 → B' o = B o) ∧ (∀ j, j ≠ 4 → B' 148 j = B 148 j) ∧ (∀ x, x < 48 → B' 151 (48 * (m' - 1) + x) = B 149 x) ∧ ∀ j x, j < m' - 1 → x < 48 → B' 151 (48 * j + x) = if m = 6 then B 151 (48 * (j + 1) + x) else B 151 (48 * j + x) := by
  unfold f200_keeps
  simp only [zlet]
  by_cases h6 : m = 6
  · subst h6
    obtain ⟨B1, s1, s2, s3⟩ := shift_ref (B := B)
    have e4 : B1 148 4 = znn 6 := by rw [s2 148 (by decide)]; exact h4
    have e4b : (zs B1 148 4 (B1 148 4 - 1)) 148 4 = znn 5 := by rw [zs_sm, if_pos rfl, e4]; rfl
    obtain ⟨B2, k1, k2, k3, k4⟩ := save_ref (m := 5) (by decide) e4b
    rw [h4, if_pos (show znn 6 = 6 from rfl), s1]
    simp only [Option.bind_some]
    rw [k1]
    simp only [Option.bind_some]
    refine ⟨_, 6, rfl, by simp, ?_, fun o q1 q2 => ?_, fun j hj => ?_, fun x hx => ?_, fun j x hj hx => ?_⟩
    · rw [zs_sm, if_pos rfl, k2 148 (by decide), e4b]; rfl
    · rw [zs_df q1, k2 o q2, zs_df q1, s2 o q2]
    · rw [zs_sm, if_neg hj, k2 148 (by decide), zs_sm, if_neg hj, s2 148 (by decide)]
    · rw [zs_df (by decide), show 48 * (6 - 1) + x = 48 * 5 + x by omega, k3 x hx, zs_df (by decide), s2 149 (by decide)]
    · rw [zs_df (by decide), k4 _ (by omega), zs_df (by decide), s3 _ (by omega), if_pos trivial]
      rw [show 48 * j + x + 48 = 48 * (j + 1) + x by omega]
  · obtain ⟨B2, k1, k2, k3, k4⟩ := save_ref (m := m) (by omega) h4
    rw [h4, if_neg (show ¬ znn m = 6 by rw [zl6, zn_eq (by omega) (by decide)]; exact h6), k1]
    simp only [Option.bind_some]
    refine ⟨_, m + 1, rfl, by rw [if_neg h6], ?_, fun o q1 q2 => ?_, fun j hj => ?_, fun x hx => ?_, fun j x hj hx => ?_⟩
    · rw [zs_sm, if_pos rfl, k2 148 (by decide), h4, zadd1]
    · rw [zs_df q1, k2 o q2]
    · rw [zs_sm, if_neg hj, k2 148 (by decide)]
    · rw [zs_df (by decide), show m + 1 - 1 = m by omega]
      exact k3 x hx
    · rw [zs_df (by decide), if_neg h6]
      exact k4 _ (by omega)
