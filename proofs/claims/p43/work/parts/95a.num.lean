-- ===== a number read forward, in VOICES, WORKS and THE COUNCIL =====
theorem num_r {a t V lo hi : Nat} {b : Nat → Nat} {B : ZI} {y : Int32 × Nat} {l : List (Int32 × Nat)} (hb : tapB b t) (ha : a ≤ 3) (hP : pT a b t B ((2, V) :: y :: l)) (h1 : lo ≤ V) (h2 : V ≤ hi) (h3 : hi < 1000000) : ∃ B', f182_number (znn lo) (znn hi) B = some (1, B') ∧ pT a b t B' (y :: l) ∧ B' 148 29 = znn V ∧ (∀ o, o ≠ 148 → B' o = B o) ∧ ∀ j, j ≠ 20 → j ≠ 21 → j ≠ 22 → j ≠ 23 → j ≠ 29 → B' 148 j = B 148 j := by
  have h21 : B 148 21 = 2 := hP.2.2.1
  have h23 : B 148 23 = znn V := hP.2.2.2.1 rfl
  have hP1 : pT a b t (zs B 148 29 (znn V)) ((2, V) :: y :: l) := pT_of hP (zs_df (by decide)) (fun j hj => by rw [zs_sm, if_neg (by omega)])
  obtain ⟨B1, e1, e2, e3, e4⟩ := ps_next hb ha hP1
  refine ⟨B1, ?_, e2, by rw [e4 29 (by decide) (by decide) (by decide) (by decide), zs_sm, if_pos rfl], fun o ho => by rw [e3 o ho, zs_df ho], fun j q1 q2 q3 q4 q5 => by rw [e4 j q1 q2 q3 q4, zs_sm, if_neg q5]⟩
  unfold f182_number
  rw [h21, if_pos rfl, h23, in_yes h1 h2 h3]
  simp only [Option.bind_some, zlet]
  rw [if_neg (by decide), e1]
  rfl
