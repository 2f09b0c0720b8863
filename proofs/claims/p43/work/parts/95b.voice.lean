-- ===== a voice read forward =====
theorem voice_run {a t n p q r v0 v1 : Nat} {b : Nat → Nat} {B : ZI} {z : Int32 × Nat} {l : List (Int32 × Nat)} (hb : tapB b t) (ha : a ≤ 3) (hn : n ≤ 10) (h48 : B 149 48 = znn n) (hp : p < n) (hq : q < n) (hpq : q ≠ p) (hfree : B 155 p = -1) (h17 : B 148 17 = znn r) (hr : r < 100) (hP : pT a b t B ((2, p) :: (7, v0) :: (2, q) :: (159, v1) :: z :: l)) :
    ∃ B', f181_aVoice B = some (1, B') ∧ pT a b t B' (z :: l) ∧ B' 148 17 = znn (r + 1) ∧ (∀ o, o ≠ 148 → o ≠ 155 → B' o = B o) ∧ (∀ j, B' 155 j = if j = p then znn q else B 155 j) ∧ ∀ j, j ≠ 17 → j ≠ 20 → j ≠ 21 → j ≠ 22 → j ≠ 23 → j ≠ 29 → B' 148 j = B 148 j := by
  have hm : znn n - 1 = znn (n - 1) := by rw [zl1, zn_sub (by omega)]
  obtain ⟨B3, e1, e2, e3, e4, e5⟩ := num_r (lo := 0) (hi := n - 1) hb ha hP (by omega) (by omega) (by omega)
  obtain ⟨B6, f1, f2, f3, f4⟩ := ps_next hb ha e2
  obtain ⟨B9, g1, g2, g3, g4, g5⟩ := num_r (lo := 0) (hi := n - 1) hb ha f2 (by omega) (by omega) (by omega)
  have c17 : B9 148 17 = znn r := by rw [g5 17 (by decide) (by decide) (by decide) (by decide) (by decide), f4 17 (by decide) (by decide) (by decide) (by decide), e5 17 (by decide) (by decide) (by decide) (by decide) (by decide)]; exact h17
  have hP2 : pT a b t (zs (zs B9 155 p (znn q)) 148 17 (znn (r + 1))) ((159, v1) :: z :: l) := pT_of g2 (by rw [zs_df (by decide), zs_df (by decide)]) (fun j hj => by rw [zs_sm, if_neg (by omega), zs_df (by decide)])
  obtain ⟨B13, k1, k2, k3, k4⟩ := ps_next hb ha hP2
  refine ⟨B13, ?_, k2, by rw [k4 17 (by decide) (by decide) (by decide) (by decide), zs_sm, if_pos rfl], fun o q1 q2 => by rw [k3 o q1, zs_df q1, zs_df q2, g4 o q1, f3 o q1, e4 o q1], fun j => by rw [k3 155 (by decide), zs_df (by decide), zs_sm, g4 155 (by decide), f3 155 (by decide), e4 155 (by decide)], fun j q0 q1 q2 q3 q4 q5 => by rw [k4 j q1 q2 q3 q4, zs_sm, if_neg q0, zs_df (by decide), g5 j q1 q2 q3 q4 q5, f4 j q1 q2 q3 q4, e5 j q1 q2 q3 q4 q5]⟩
  have h21 : B 148 21 = 2 := hP.2.2.1
  have h23 : B 148 23 = znn p := hP.2.2.2.1 rfl
  have i21 : B6 148 21 = 2 := f2.2.2.1
  have i23 : B6 148 23 = znn q := f2.2.2.2.1 rfl
  have w48 : B6 149 48 = znn n := by rw [f3 149 (by decide), e4 149 (by decide)]; exact h48
  have zp : zi (znn p) = p := zn_zi (by omega)
  have zin10 : zin (znn p) 10 = true := (zn_zin (by omega)).mpr (by omega)
  unfold f181_aVoice
  simp only [zlet]
  rw [h21, if_pos rfl, h23, per_yes hn h48 hp]
  simp only [Option.bind_some]
  rw [if_neg (by decide), if_pos zin10, zp, hfree, if_pos rfl, h48, hm, show f182_number 0 (znn (n - 1)) B = some (1, B3) from e1]
  simp only [Option.bind_some]
  rw [if_neg (by decide)]
  unfold f179_need
  rw [show B3 148 21 = 7 from e2.2.2.1, if_pos rfl, f1]
  simp only [Option.bind_some]
  rw [if_neg (by decide), i21, if_pos rfl, i23, e3, if_neg (show ¬ znn q = znn p by rw [zn_eq (by omega) (by omega)]; exact hpq), w48, hm, show f182_number 0 (znn (n - 1)) B6 = some (1, B9) from g1]
  simp only [Option.bind_some]
  rw [if_neg (by decide), if_pos zin10, zp, g3]
  simp only [zs_df (show (148 : Nat) ≠ 155 by decide), c17, zadd1]
  rw [show (zs (zs B9 155 p (znn q)) 148 17 (znn (r + 1))) 148 21 = 159 from hP2.2.2.1, if_pos rfl, k1]
  rfl
