-- ===== the five lines of the law with drawn numbers =====


theorem u_name {a t : Nat} {b : Nat → Nat} (hb : tapB b t) (ha : a ≤ 3) {T : Int32} {k : Nat} {y : Int32 × Nat} {l : List (Int32 × Nat)} (hT : T = znn (40 + k)) (h1 : 1 ≤ k) (h9 : k ≤ 9) : Runs a b t f173_unit ((T, 0) :: y :: l) (y :: l) [(k, 0)] := run_unit (q := (T, 0)) hb ha (Or.inr ⟨hT, h1, h9⟩)
theorem u_num {a t : Nat} {b : Nat → Nat} (hb : tapB b t) (ha : a ≤ 3) {V : Nat} {y : Int32 × Nat} {l : List (Int32 × Nat)} : Runs a b t f173_unit ((2, V) :: y :: l) (y :: l) [(0, V)] := run_unit (q := (2, V)) hb ha (Or.inl ⟨rfl, rfl⟩)
/-- a lone name or number as a sum, before a token that ends it -/
theorem s_one {a t v : Nat} {b : Nat → Nat} {T : Int32} {l1 l2 : List (Int32 × Nat)} {c : List (Nat × Nat)} (h : Runs a b t f173_unit l1 ((T, v) :: l2) c) (g1 : T ≠ 142) (g2 : T ≠ 147) (g3 : T ≠ 143) (g4 : T ≠ 145) : Runs a b t f171_sumUp l1 ((T, v) :: l2) c := by
  have := run_sum (run_product h (pl_stop (n := 99999) (q := (T, v)) g1 g2)) (sl_stop (n := 99999) (q := (T, v)) g3 g4)
  simpa using this

theorem law_1 {a t D2 : Nat} {b : Nat → Nat} {l : List (Int32 × Nat)} (hb : tapB b t) (ha : a ≤ 3) : Runs a b t f171_sumUp ((43, 0) :: (147, 0) :: (2, 4) :: (143, 0) :: (2, D2) :: (3, 0) :: l) ((3, 0) :: l) [(3, 0), (26, 4), (0, D2), (23, 0)] :=
  run_sum (run_product (u_name hb ha (k := 3) rfl (by decide) (by decide)) (pl_div (n := 99999) hb ha (by decide) (by decide) (pl_stop (n := 99998) (by show (143 : Int32) ≠ 142; decide) (by show (143 : Int32) ≠ 147; decide))))
    (sl_more (n := 99999) (k := 23) hb ha (Or.inl ⟨rfl, rfl⟩) (run_product (u_num hb ha) (pl_stop (n := 99999) (by show (3 : Int32) ≠ 142; decide) (by show (3 : Int32) ≠ 147; decide))) (sl_stop (n := 99998) (by show (3 : Int32) ≠ 143; decide) (by show (3 : Int32) ≠ 145; decide)))
theorem law_2 {a t D3 : Nat} {b : Nat → Nat} {l : List (Int32 × Nat)} (hb : tapB b t) (ha : a ≤ 3) : Runs a b t f171_sumUp ((45, 0) :: (145, 0) :: (44, 0) :: (142, 0) :: (2, D3) :: (159, 0) :: l) ((159, 0) :: l) [(5, 0), (4, 0), (0, D3), (25, 0), (24, 0)] :=
  run_sum (run_product (u_name hb ha (k := 5) rfl (by decide) (by decide)) (pl_stop (n := 99999) (by show (145 : Int32) ≠ 142; decide) (by show (145 : Int32) ≠ 147; decide)))
    (sl_more (n := 99999) (k := 24) hb ha (Or.inr ⟨rfl, rfl⟩) (run_product (u_name hb ha (k := 4) rfl (by decide) (by decide)) (pl_mul (n := 99999) hb ha (u_num hb ha) (pl_stop (n := 99998) (by show (159 : Int32) ≠ 142; decide) (by show (159 : Int32) ≠ 147; decide)))) (sl_stop (n := 99998) (by show (159 : Int32) ≠ 143; decide) (by show (159 : Int32) ≠ 145; decide)))
theorem law_3 {a t : Nat} {b : Nat → Nat} {l : List (Int32 × Nat)} (hb : tapB b t) (ha : a ≤ 3) : Runs a b t f171_sumUp ((49, 0) :: (147, 0) :: (2, 3) :: (143, 0) :: (48, 0) :: (3, 0) :: l) ((3, 0) :: l) [(9, 0), (26, 3), (8, 0), (23, 0)] :=
  run_sum (run_product (u_name hb ha (k := 9) rfl (by decide) (by decide)) (pl_div (n := 99999) hb ha (by decide) (by decide) (pl_stop (n := 99998) (by show (143 : Int32) ≠ 142; decide) (by show (143 : Int32) ≠ 147; decide))))
    (sl_more (n := 99999) (k := 23) hb ha (Or.inl ⟨rfl, rfl⟩) (run_product (u_name hb ha (k := 8) rfl (by decide) (by decide)) (pl_stop (n := 99999) (by show (3 : Int32) ≠ 142; decide) (by show (3 : Int32) ≠ 147; decide))) (sl_stop (n := 99998) (by show (3 : Int32) ≠ 143; decide) (by show (3 : Int32) ≠ 145; decide)))
theorem law_5 {a t D6 : Nat} {b : Nat → Nat} {l : List (Int32 × Nat)} (hb : tapB b t) (ha : a ≤ 3) : Runs a b t f171_sumUp ((49, 0) :: (142, 0) :: (2, D6) :: (143, 0) :: (47, 0) :: (142, 0) :: (2, 50) :: (145, 0) :: (47, 0) :: (147, 0) :: (2, 3) :: (142, 0) :: (2, 150) :: (159, 0) :: l) ((159, 0) :: l) [(9, 0), (0, D6), (25, 0), (7, 0), (0, 50), (25, 0), (23, 0), (7, 0), (26, 3), (0, 150), (25, 0), (24, 0)] :=
  run_sum (run_product (u_name hb ha (k := 9) rfl (by decide) (by decide)) (pl_mul (n := 99999) hb ha (u_num hb ha) (pl_stop (n := 99998) (by show (143 : Int32) ≠ 142; decide) (by show (143 : Int32) ≠ 147; decide))))
    (sl_more (n := 99999) (k := 23) hb ha (Or.inl ⟨rfl, rfl⟩) (run_product (u_name hb ha (k := 7) rfl (by decide) (by decide)) (pl_mul (n := 99999) hb ha (u_num hb ha) (pl_stop (n := 99998) (by show (145 : Int32) ≠ 142; decide) (by show (145 : Int32) ≠ 147; decide))))
      (sl_more (n := 99998) (k := 24) hb ha (Or.inr ⟨rfl, rfl⟩) (run_product (u_name hb ha (k := 7) rfl (by decide) (by decide)) (pl_div (n := 99999) hb ha (by decide) (by decide) (pl_mul (n := 99998) hb ha (u_num hb ha) (pl_stop (n := 99997) (by show (159 : Int32) ≠ 142; decide) (by show (159 : Int32) ≠ 147; decide)))))
        (sl_stop (n := 99997) (by show (159 : Int32) ≠ 143; decide) (by show (159 : Int32) ≠ 145; decide))))
