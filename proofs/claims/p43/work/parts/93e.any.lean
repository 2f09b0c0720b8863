-- ===== not, brackets, and, or =====
theorem opens_r {a t d : Nat} {b : Nat → Nat} {B : ZI} {q y : Int32 × Nat} {l : List (Int32 × Nat)} {cs : List (Nat × Nat)} (hb : tapB b t) (ha : a ≤ 3) (hP : pT a b t B (q :: y :: l)) (hC : coded B cs) (h27 : B 148 27 = znn d) (hd : d < 8) : ∃ B', f178_opens B = some (1, B') ∧ pT a b t B' (y :: l) ∧ coded B' cs ∧ B' 148 27 = znn (d + 1) ∧ kpD B B' := by
  have hP1 : pT a b t (zs B 148 27 (znn (d + 1))) (q :: y :: l) := pT_of hP (zs_df (by decide)) (fun j hj => by rw [zs_sm, if_neg (by omega)])
  obtain ⟨B1, e1, e2, e3, e4⟩ := ps_next hb ha hP1
  refine ⟨B1, ?_, e2, coded_of (coded_of hC (zs_df (by decide)) (by rw [zs_sm, if_neg (by decide)])) (e3 154 (by decide)) (e4 16 (by decide) (by decide) (by decide) (by decide)), by rw [e4 27 (by decide) (by decide) (by decide) (by decide), zs_sm, if_pos rfl], ⟨fun o q1 _ => by rw [e3 o q1, zs_df q1], fun j _ q2 q3 q4 q5 q6 => by rw [e4 j q2 q3 q4 q5, zs_sm, if_neg q6]⟩⟩
  unfold f178_opens
  rw [h27, if_neg (show ¬ znn d = 8 by rw [zl8, zn_eq (by omega) (by decide)]; omega)]
  simp only [zlet]
  rw [zadd1, e1]
  rfl
theorem closes_r {a t d : Nat} {b : Nat → Nat} {B : ZI} {l : List (Int32 × Nat)} {cs : List (Nat × Nat)} (hP : pT a b t B l) (hC : coded B cs) (h27 : B 148 27 = znn (d + 1)) (hd : d < 100) : B 148 27 - 1 = znn d ∧ pT a b t (zs B 148 27 (znn d)) l ∧ coded (zs B 148 27 (znn d)) cs ∧ (zs B 148 27 (znn d)) 148 27 = znn d ∧ kpD B (zs B 148 27 (znn d)) :=
  ⟨by rw [h27, zl1, zn_sub (by omega)]; rfl, pT_of hP (zs_df (by decide)) (fun j hj => by rw [zs_sm, if_neg (by omega)]), coded_of hC (zs_df (by decide)) (by rw [zs_sm, if_neg (by decide)]), by rw [zs_sm, if_pos rfl], ⟨fun o q1 _ => zs_df q1, fun j _ _ _ _ _ q6 => by rw [zs_sm, if_neg q6]⟩⟩
theorem t_not {a t d v0 : Nat} {b : Nat → Nat} {g175 g177 : ZI → Option (Int32 × ZI)} {y : Int32 × Nat} {l l2 : List (Int32 × Nat)} {c : List (Nat × Nat)} (hb : tapB b t) (ha : a ≤ 3) (hd : d < 8) (hr : RunsD a b t (d + 1) g177 (y :: l) l2 c) : RunsD a b t d (f177_oneTest_b g175 g177) ((6, v0) :: y :: l) l2 (c ++ [(30, 0)]) := by
  intro B cs hP hC h27 hl
  simp only [List.length_append, List.length_cons, List.length_nil] at hl
  obtain ⟨B1, e1, e2, e3, e4, e5⟩ := opens_r hb ha hP hC h27 hd
  obtain ⟨B2, g1, g2, g3, g4, g5⟩ := hr B1 cs e2 e3 e4 (by omega)
  obtain ⟨k0, k1, k2, k3, k4⟩ := closes_r g2 g3 g4 (by omega)
  obtain ⟨B3, m1, m2, m3, m4⟩ := lay_r (k := 30) (v := 0) (q := (30, 0)) k2 (by simp; omega) rfl (fun _ => rfl)
  refine ⟨B3, ?_, pT_of k1 (m3 158 (by decide) (by decide)) (fun j hj => m4 j (by omega)), by rw [← List.append_assoc]; exact m2, by rw [m4 27 (by decide)]; exact k3, kpD_trans e5 (kpD_trans g5 (kpD_trans k4 ⟨m3, fun j q1 _ _ _ _ _ => m4 j q1⟩))⟩
  have h21 : B 148 21 = 6 := hP.2.2.1
  simp only [f177_oneTest_b]
  rw [h21, if_pos rfl, e1]
  simp only [Option.bind_some]
  rw [if_neg (by decide), g1]
  simp only [Option.bind_some, zlet]
  rw [if_neg (by decide), k0, m1]
  rfl
theorem need_r {a t : Nat} {b : Nat → Nat} {B : ZI} {T : Int32} {v0 : Nat} {y : Int32 × Nat} {l : List (Int32 × Nat)} {cs : List (Nat × Nat)} (hb : tapB b t) (ha : a ≤ 3) (hP : pT a b t B ((T, v0) :: y :: l)) (hC : coded B cs) : ∃ B', f179_need T B = some (1, B') ∧ pT a b t B' (y :: l) ∧ coded B' cs ∧ (∀ o, o ≠ 148 → B' o = B o) ∧ ∀ j, j ≠ 20 → j ≠ 21 → j ≠ 22 → j ≠ 23 → B' 148 j = B 148 j := by
  obtain ⟨B1, e1, e2, e3, e4⟩ := ps_next hb ha hP
  refine ⟨B1, ?_, e2, coded_of hC (e3 154 (by decide)) (e4 16 (by decide) (by decide) (by decide) (by decide)), e3, e4⟩
  unfold f179_need
  rw [show B 148 21 = T from hP.2.2.1, if_pos rfl, e1]
  rfl
theorem t_par {a t d v0 v1 : Nat} {b : Nat → Nat} {g175 g177 : ZI → Option (Int32 × ZI)} {y z : Int32 × Nat} {l l2 : List (Int32 × Nat)} {c : List (Nat × Nat)} (hb : tapB b t) (ha : a ≤ 3) (hd : d < 8) (hr : RunsD a b t (d + 1) g175 (y :: l) ((141, v1) :: z :: l2) c) : RunsD a b t d (f177_oneTest_b g175 g177) ((140, v0) :: y :: l) (z :: l2) c := by
  intro B cs hP hC h27 hl
  obtain ⟨B1, e1, e2, e3, e4, e5⟩ := opens_r hb ha hP hC h27 hd
  obtain ⟨B2, g1, g2, g3, g4, g5⟩ := hr B1 cs e2 e3 e4 hl
  obtain ⟨B3, n1, n2, n3, n4, n5⟩ := need_r hb ha g2 g3
  obtain ⟨k0, k1, k2, k3, k4⟩ := closes_r n2 n3 (by rw [n5 27 (by decide) (by decide) (by decide) (by decide)]; exact g4) (by omega)
  refine ⟨_, ?_, k1, k2, k3, kpD_trans e5 (kpD_trans g5 (kpD_trans ⟨fun o q1 _ => n4 o q1, fun j _ q2 q3 q4 q5 _ => n5 j q2 q3 q4 q5⟩ k4))⟩
  have h21 : B 148 21 = 140 := hP.2.2.1
  simp only [f177_oneTest_b]
  rw [h21, if_neg (show ¬ (140 : Int32) = 6 by decide), if_pos rfl, e1]
  simp only [Option.bind_some]
  rw [if_neg (by decide), g1]
  simp only [Option.bind_some]
  rw [if_neg (by decide), n1]
  simp only [Option.bind_some, zlet]
  rw [if_neg (by decide), k0]
theorem el_stop {a t d n : Nat} {b : Nat → Nat} {g : ZI → Option (Int32 × ZI)} {q : Int32 × Nat} {l : List (Int32 × Nat)} (h1 : q.1 ≠ 5) : RunsD a b t d (f176_l9 g (n + 1)) (q :: l) (q :: l) [] :=
  runsD_id (fun B hB => by
    simp only [f176_l9]
    rw [hB, if_neg h1])
theorem el_and {a t d n v0 : Nat} {b : Nat → Nat} {g : ZI → Option (Int32 × ZI)} {y : Int32 × Nat} {l l1 l2 : List (Int32 × Nat)} {c1 c2 : List (Nat × Nat)} (hb : tapB b t) (ha : a ≤ 3) (hu : RunsD a b t d g (y :: l) l1 c1) (hr : RunsD a b t d (f176_l9 g n) l1 l2 c2) : RunsD a b t d (f176_l9 g (n + 1)) ((5, v0) :: y :: l) l2 (c1 ++ (31, 0) :: c2) := by
  refine runsD_next hb ha (g := fun M7 => (g M7).bind fun x => if x.1 = 0 then some ((0 : Int32), x.2) else (f174_lay (31 : Int32) (0 : Int32) x.2).bind fun M10 => f176_l9 g n M10) (runsD_seq hu (runsD_lay (q := (31, 0)) (h := fun B => (f174_lay (31 : Int32) (0 : Int32) B).bind fun M10 => f176_l9 g n M10) hr (fun B B1 e => ?_)) (fun B B1 _ e => ?_)) (fun B B1 hB e => ?_)
  · show (f174_lay (znn 31) (znn 0) B).bind _ = _
    rw [e]; rfl
  · simp only [e, Option.bind_some]
    rw [if_neg (by decide)]
  · simp only [f176_l9]
    rw [hB, if_pos rfl, e]
    rfl
theorem run_every {a t d : Nat} {b : Nat → Nat} {g : ZI → Option (Int32 × ZI)} {l l1 l2 : List (Int32 × Nat)} {c1 c2 : List (Nat × Nat)} (hu : RunsD a b t d g l l1 c1) (hr : RunsD a b t d (f176_l9 g zfu) l1 l2 c2) : RunsD a b t d (f176_every_b g) l l2 (c1 ++ c2) :=
  runsD_seq hu hr (fun B B1 _ e => by
    unfold f176_every_b
    rw [e]
    simp only [Option.bind_some]
    rw [if_neg (by decide)])
theorem al_stop {a t d n : Nat} {b : Nat → Nat} {g : ZI → Option (Int32 × ZI)} {q : Int32 × Nat} {l : List (Int32 × Nat)} (h1 : q.1 ≠ 4) : RunsD a b t d (f175_l9 g (n + 1)) (q :: l) (q :: l) [] :=
  runsD_id (fun B hB => by
    simp only [f175_l9]
    rw [hB, if_neg h1])
theorem al_or {a t d n v0 : Nat} {b : Nat → Nat} {g : ZI → Option (Int32 × ZI)} {y : Int32 × Nat} {l l1 l2 : List (Int32 × Nat)} {c1 c2 : List (Nat × Nat)} (hb : tapB b t) (ha : a ≤ 3) (hu : RunsD a b t d g (y :: l) l1 c1) (hr : RunsD a b t d (f175_l9 g n) l1 l2 c2) : RunsD a b t d (f175_l9 g (n + 1)) ((4, v0) :: y :: l) l2 (c1 ++ (32, 0) :: c2) := by
  refine runsD_next hb ha (g := fun M7 => (g M7).bind fun x => if x.1 = 0 then some ((0 : Int32), x.2) else (f174_lay (32 : Int32) (0 : Int32) x.2).bind fun M10 => f175_l9 g n M10) (runsD_seq hu (runsD_lay (q := (32, 0)) (h := fun B => (f174_lay (32 : Int32) (0 : Int32) B).bind fun M10 => f175_l9 g n M10) hr (fun B B1 e => ?_)) (fun B B1 _ e => ?_)) (fun B B1 hB e => ?_)
  · show (f174_lay (znn 32) (znn 0) B).bind _ = _
    rw [e]; rfl
  · simp only [e, Option.bind_some]
    rw [if_neg (by decide)]
  · simp only [f175_l9]
    rw [hB, if_pos rfl, e]
    rfl
theorem run_any {a t d : Nat} {b : Nat → Nat} {g : ZI → Option (Int32 × ZI)} {l l1 l2 : List (Int32 × Nat)} {c1 c2 : List (Nat × Nat)} (hu : RunsD a b t d g l l1 c1) (hr : RunsD a b t d (f175_l9 g zfu) l1 l2 c2) : RunsD a b t d (f175_any_b g) l l2 (c1 ++ c2) :=
  runsD_seq hu hr (fun B B1 _ e => by
    unfold f175_any_b
    rw [e]
    simp only [Option.bind_some]
    rw [if_neg (by decide)])
