-- ===== the two conditions of the law with drawn numbers =====
theorem w_cmp {a t d f k v n2 : Nat} {b : Nat → Nat} {T T2 : Int32} {k0 : Nat} {l : List (Int32 × Nat)} (hb : tapB b t) (ha : a ≤ 3) (hT : T = znn (40 + k0)) (h1 : 1 ≤ k0) (h9 : k0 ≤ 9) (hT2 : (T2 = 160 ∧ k = 27) ∨ (T2 = 161 ∧ k = 28) ∨ (T2 = 162 ∧ k = 29)) {E : Int32} (e1 : E ≠ 142) (e2 : E ≠ 147) (e3 : E ≠ 143) (e4 : E ≠ 145) : RunsD a b t d (f177_oneTest (f + 1)) ((T, 0) :: (T2, v) :: (2, n2) :: (E, 0) :: l) ((E, 0) :: l) [(k0, 0), (0, n2), (k, 0)] := by
  have g : T ≠ 6 ∧ T ≠ 140 := by
    rw [hT]
    constructor
    · rw [zl6]; intro h; rw [zn_eq (by omega) (by omega)] at h; omega
    · rw [zl140]; intro h; rw [zn_eq (by omega) (by omega)] at h; omega
  have q : T2 ≠ 142 ∧ T2 ≠ 147 ∧ T2 ≠ 143 ∧ T2 ≠ 145 := by
    rcases hT2 with ⟨rfl, -⟩ | ⟨rfl, -⟩ | ⟨rfl, -⟩ <;> exact ⟨by decide, by decide, by decide, by decide⟩
  rw [fe177]
  exact t_cmp hb ha g.1 g.2 hT2 (s_one (u_name hb ha hT h1 h9) q.1 q.2.1 q.2.2.1 q.2.2.2) (s_one (u_num hb ha) e1 e2 e3 e4) (by simp)
theorem w_every {a t d f : Nat} {b : Nat → Nat} {l l1 : List (Int32 × Nat)} {E : Int32} {c : List (Nat × Nat)} (h : RunsD a b t d (f177_oneTest f) l ((E, 0) :: l1) c) (e5 : E ≠ 5) : RunsD a b t d (f176_every (f + 1)) l ((E, 0) :: l1) c := by
  rw [fe176]
  have := run_every h (el_stop (n := 99999) (q := (E, 0)) e5)
  rw [List.append_nil] at this
  exact this
theorem w_when3 {a t D4 : Nat} {b : Nat → Nat} {l : List (Int32 × Nat)} (hb : tapB b t) (ha : a ≤ 3) : RunsD a b t 0 (f175_any zgf) ((49, 0) :: (162, 0) :: (2, D4) :: (4, 0) :: (43, 0) :: (160, 0) :: (2, 3) :: (159, 0) :: l) ((159, 0) :: l) [(9, 0), (0, D4), (29, 0), (3, 0), (0, 3), (27, 0), (32, 0)] := by
  show RunsD a b t 0 (f175_any (69 + 1)) _ _ _
  rw [fe175]
  exact run_any (w_every (f := 68) (w_cmp (f := 67) (k0 := 9) hb ha rfl (by decide) (by decide) (Or.inr (Or.inr ⟨rfl, rfl⟩)) (by decide) (by decide) (by decide) (by decide)) (by decide))
    (al_or (n := 99999) hb ha (w_every (f := 68) (w_cmp (f := 67) (k0 := 3) hb ha rfl (by decide) (by decide) (Or.inl ⟨rfl, rfl⟩) (by decide) (by decide) (by decide) (by decide)) (by decide)) (al_stop (n := 99998) (by show (159 : Int32) ≠ 4; decide)))
theorem w_when1 {a t D0 D1 : Nat} {b : Nat → Nat} {l : List (Int32 × Nat)} (hb : tapB b t) (ha : a ≤ 3) : RunsD a b t 0 (f175_any zgf) ((42, 0) :: (162, 0) :: (2, D0) :: (5, 0) :: (6, 0) :: (140, 0) :: (44, 0) :: (162, 0) :: (2, D1) :: (4, 0) :: (46, 0) :: (162, 0) :: (2, 9) :: (141, 0) :: (159, 0) :: l) ((159, 0) :: l) [(2, 0), (0, D0), (29, 0), (4, 0), (0, D1), (29, 0), (6, 0), (0, 9), (29, 0), (32, 0), (30, 0), (31, 0)] := by
  have inner : RunsD a b t 2 (f175_any 66) ((44, 0) :: (162, 0) :: (2, D1) :: (4, 0) :: (46, 0) :: (162, 0) :: (2, 9) :: (141, 0) :: (159, 0) :: l) ((141, 0) :: (159, 0) :: l) [(4, 0), (0, D1), (29, 0), (6, 0), (0, 9), (29, 0), (32, 0)] := by
    show RunsD a b t 2 (f175_any (65 + 1)) _ _ _
    rw [fe175]
    exact run_any (w_every (f := 64) (w_cmp (f := 63) (k0 := 4) hb ha rfl (by decide) (by decide) (Or.inr (Or.inr ⟨rfl, rfl⟩)) (by decide) (by decide) (by decide) (by decide)) (by decide))
      (al_or (n := 99999) hb ha (w_every (f := 64) (w_cmp (f := 63) (k0 := 6) hb ha rfl (by decide) (by decide) (Or.inr (Or.inr ⟨rfl, rfl⟩)) (by decide) (by decide) (by decide) (by decide)) (by decide)) (al_stop (n := 99998) (by show (141 : Int32) ≠ 4; decide)))
  have par : RunsD a b t 1 (f177_oneTest 67) ((140, 0) :: (44, 0) :: (162, 0) :: (2, D1) :: (4, 0) :: (46, 0) :: (162, 0) :: (2, 9) :: (141, 0) :: (159, 0) :: l) ((159, 0) :: l) [(4, 0), (0, D1), (29, 0), (6, 0), (0, 9), (29, 0), (32, 0)] := by
    show RunsD a b t 1 (f177_oneTest (66 + 1)) _ _ _
    rw [fe177]
    exact t_par hb ha (by decide) inner
  have hnot : RunsD a b t 0 (f177_oneTest 68) ((6, 0) :: (140, 0) :: (44, 0) :: (162, 0) :: (2, D1) :: (4, 0) :: (46, 0) :: (162, 0) :: (2, 9) :: (141, 0) :: (159, 0) :: l) ((159, 0) :: l) [(4, 0), (0, D1), (29, 0), (6, 0), (0, 9), (29, 0), (32, 0), (30, 0)] := by
    show RunsD a b t 0 (f177_oneTest (67 + 1)) _ _ _
    rw [fe177]
    exact t_not hb ha (by decide) par
  have hev : RunsD a b t 0 (f176_every 69) ((42, 0) :: (162, 0) :: (2, D0) :: (5, 0) :: (6, 0) :: (140, 0) :: (44, 0) :: (162, 0) :: (2, D1) :: (4, 0) :: (46, 0) :: (162, 0) :: (2, 9) :: (141, 0) :: (159, 0) :: l) ((159, 0) :: l) [(2, 0), (0, D0), (29, 0), (4, 0), (0, D1), (29, 0), (6, 0), (0, 9), (29, 0), (32, 0), (30, 0), (31, 0)] := by
    show RunsD a b t 0 (f176_every (68 + 1)) _ _ _
    rw [fe176]
    exact run_every (w_cmp (f := 67) (k0 := 2) hb ha rfl (by decide) (by decide) (Or.inr (Or.inr ⟨rfl, rfl⟩)) (by decide) (by decide) (by decide) (by decide)) (el_and (n := 99999) hb ha hnot (el_stop (n := 99998) (by show (159 : Int32) ≠ 5; decide)))
  show RunsD a b t 0 (f175_any (69 + 1)) _ _ _
  rw [fe175]
  have := run_any hev (al_stop (n := 99999) (q := ((159 : Int32), 0)) (by show (159 : Int32) ≠ 4; decide))
  rw [List.append_nil] at this
  exact this
