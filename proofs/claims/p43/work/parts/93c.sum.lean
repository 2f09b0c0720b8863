-- ===== sums, as they are read forward =====
theorem runs_seq {a t : Nat} {b : Nat → Nat} {f g h : ZI → Option (Int32 × ZI)} {l l1 l2 : List (Int32 × Nat)} {c1 c2 : List (Nat × Nat)} (hf : Runs a b t f l l1 c1) (hg : Runs a b t g l1 l2 c2) (hh : ∀ B B1, f B = some (1, B1) → h B = g B1) : Runs a b t h l l2 (c1 ++ c2) := by
  intro B cs hP hC hl
  simp only [List.length_append] at hl
  obtain ⟨B1, e1, e2, e3, e4⟩ := hf B cs hP hC (by omega)
  obtain ⟨B2, g1, g2, g3, g4⟩ := hg B1 (cs ++ c1) e2 e3 (by simp; omega)
  exact ⟨B2, (hh B B1 e1).trans g1, g2, by rw [← List.append_assoc]; exact g3, kpL_trans e4 g4⟩
theorem runs_next {a t : Nat} {b : Nat → Nat} {g h : ZI → Option (Int32 × ZI)} {q y : Int32 × Nat} {l l' : List (Int32 × Nat)} {c : List (Nat × Nat)} (hb : tapB b t) (ha : a ≤ 3) (hg : Runs a b t g (y :: l) l' c) (hh : ∀ B B1, B 148 21 = q.1 → f157_next0 B = some B1 → h B = g B1) : Runs a b t h (q :: y :: l) l' c := by
  intro B cs hP hC hl
  obtain ⟨B1, e1, e2, e3, e4⟩ := ps_next hb ha hP
  obtain ⟨B2, g1, g2, g3, g4⟩ := hg B1 cs e2 (coded_of hC (e3 154 (by decide)) (e4 16 (by decide) (by decide) (by decide) (by decide))) hl
  exact ⟨B2, (hh B B1 hP.2.2.1 e1).trans g1, g2, g3, kpL_trans ⟨fun o q1 _ => e3 o q1, fun j _ q2 q3 q4 q5 => e4 j q2 q3 q4 q5⟩ g4⟩
theorem runs_lay {a t : Nat} {b : Nat → Nat} {g h : ZI → Option (Int32 × ZI)} {l l' : List (Int32 × Nat)} {c : List (Nat × Nat)} {q : Nat × Nat} (hg : Runs a b t g l l' c) (hh : ∀ B B1, f174_lay (znn q.1) (znn q.2) B = some B1 → h B = g B1) : Runs a b t h l l' (q :: c) := by
  intro B cs hP hC hl
  simp only [List.length_cons] at hl
  obtain ⟨B1, e1, e2, e3, e4⟩ := lay_r (k := znn q.1) (v := znn q.2) (q := q) hC (by omega) rfl (fun _ => rfl)
  obtain ⟨B2, g1, g2, g3, g4⟩ := hg B1 (cs ++ [q]) (pT_of hP (e3 158 (by decide) (by decide)) (fun j hj => e4 j (by omega))) e2 (by simp; omega)
  exact ⟨B2, (hh B B1 e1).trans g1, g2, by rw [List.append_assoc] at g3; exact g3, kpL_trans ⟨e3, fun j q1 _ _ _ _ => e4 j q1⟩ g4⟩
theorem runs_id {a t : Nat} {b : Nat → Nat} {h : ZI → Option (Int32 × ZI)} {q : Int32 × Nat} {l : List (Int32 × Nat)} (hh : ∀ B, B 148 21 = q.1 → h B = some (1, B)) : Runs a b t h (q :: l) (q :: l) [] := by
  intro B cs hP hC _
  exact ⟨B, hh B hP.2.2.1, hP, by rw [List.append_nil]; exact hC, kpL_refl B⟩
theorem pl_stop {a t n : Nat} {b : Nat → Nat} {q : Int32 × Nat} {l : List (Int32 × Nat)} (h1 : q.1 ≠ 142) (h2 : q.1 ≠ 147) : Runs a b t (f172_l9 (n + 1)) (q :: l) (q :: l) [] :=
  runs_id (fun B hB => by
    simp only [f172_l9, zlet]
    rw [hB, if_neg h1, if_neg h2])
theorem pl_mul {a t n v0 : Nat} {b : Nat → Nat} {y : Int32 × Nat} {l l1 l2 : List (Int32 × Nat)} {c1 c2 : List (Nat × Nat)} (hb : tapB b t) (ha : a ≤ 3) (hu : Runs a b t f173_unit (y :: l) l1 c1) (hr : Runs a b t (f172_l9 n) l1 l2 c2) : Runs a b t (f172_l9 (n + 1)) ((142, v0) :: y :: l) l2 (c1 ++ (25, 0) :: c2) := by
  refine runs_next hb ha (g := fun M7 => (f173_unit M7).bind fun x => if x.1 = 0 then some ((0 : Int32), x.2) else (f174_lay (25 : Int32) (0 : Int32) x.2).bind fun M10 => f172_l9 n M10) (runs_seq hu (runs_lay (q := (25, 0)) (h := fun B => (f174_lay (25 : Int32) (0 : Int32) B).bind fun M10 => f172_l9 n M10) hr (fun B B1 e => ?_)) (fun B B1 e => ?_)) (fun B B1 hB e => ?_)
  · show (f174_lay (znn 25) (znn 0) B).bind _ = _
    rw [e]; rfl
  · simp only [e, Option.bind_some]
    rw [if_neg (by decide)]
  · simp only [f172_l9, zlet]
    rw [hB, if_pos rfl, if_neg (show ¬ (142 : Int32) = 147 by decide)]
    simp only [Option.bind_some]
    rw [e]
    simp only [Option.bind_some]
    rw [if_pos trivial]
theorem pl_div {a t n v0 V : Nat} {b : Nat → Nat} {y : Int32 × Nat} {l l2 : List (Int32 × Nat)} {c2 : List (Nat × Nat)} (hb : tapB b t) (ha : a ≤ 3) (hV : 0 < V) (hV2 : V < 100000) (hr : Runs a b t (f172_l9 n) (y :: l) l2 c2) : Runs a b t (f172_l9 (n + 1)) ((147, v0) :: (2, V) :: y :: l) l2 ((26, V) :: c2) := by
  intro B cs hP hC hl
  simp only [List.length_cons] at hl
  obtain ⟨B1, e1, e2, e3, e4⟩ := ps_next hb ha hP
  obtain ⟨B2, f1, f2, f3, f4⟩ := ps_next hb ha e2
  have h23 : B1 148 23 = znn V := e2.2.2.2.1 rfl
  have hC2 : coded B2 cs := coded_of (coded_of hC (e3 154 (by decide)) (e4 16 (by decide) (by decide) (by decide) (by decide))) (f3 154 (by decide)) (f4 16 (by decide) (by decide) (by decide) (by decide))
  obtain ⟨B3, g1, g2, g3, g4⟩ := lay_r (k := 26) (v := znn V) (q := (26, V)) hC2 (by omega) rfl (fun _ => rfl)
  obtain ⟨B4, k1, k2, k3, k4⟩ := hr B3 (cs ++ [(26, V)]) (pT_of f2 (g3 158 (by decide) (by decide)) (fun j hj => g4 j (by omega))) g2 (by simp; omega)
  refine ⟨B4, ?_, k2, by rw [List.append_assoc] at k3; exact k3, kpL_trans (kpL_trans ⟨fun o q1 _ => e3 o q1, fun j _ q2 q3 q4 q5 => e4 j q2 q3 q4 q5⟩ ⟨fun o q1 _ => f3 o q1, fun j _ q2 q3 q4 q5 => f4 j q2 q3 q4 q5⟩) (kpL_trans ⟨g3, fun j q1 _ _ _ _ => g4 j q1⟩ k4)⟩
  have h21 : B 148 21 = 147 := hP.2.2.1
  have h21b : B1 148 21 = 2 := e2.2.2.1
  simp only [f172_l9, zlet]
  rw [h21, if_neg (by decide), if_pos rfl, if_pos rfl]
  simp only [Option.bind_some]
  rw [e1]
  simp only [Option.bind_some]
  rw [if_neg (by decide), h21b, if_pos rfl, h23, if_neg (show ¬ znn V = 0 by rw [zl0, zn_eq (by omega) (by decide)]; omega), f1]
  simp only [Option.bind_some]
  rw [g1]
  simp only [Option.bind_some]
  exact k1
theorem run_product {a t : Nat} {b : Nat → Nat} {l l1 l2 : List (Int32 × Nat)} {c1 c2 : List (Nat × Nat)} (hu : Runs a b t f173_unit l l1 c1) (hr : Runs a b t (f172_l9 zfu) l1 l2 c2) : Runs a b t f172_product l l2 (c1 ++ c2) :=
  runs_seq hu hr (fun B B1 e => by
    unfold f172_product
    rw [e]
    simp only [Option.bind_some]
    rw [if_neg (by decide)])
theorem sl_stop {a t n : Nat} {b : Nat → Nat} {q : Int32 × Nat} {l : List (Int32 × Nat)} (h1 : q.1 ≠ 143) (h2 : q.1 ≠ 145) : Runs a b t (f171_l9 (n + 1)) (q :: l) (q :: l) [] :=
  runs_id (fun B hB => by
    simp only [f171_l9, zlet]
    rw [hB, if_neg h1, if_neg h2])
theorem sl_more {a t n v0 k : Nat} {b : Nat → Nat} {T : Int32} {y : Int32 × Nat} {l l1 l2 : List (Int32 × Nat)} {c1 c2 : List (Nat × Nat)} (hb : tapB b t) (ha : a ≤ 3) (hT : (T = 143 ∧ k = 23) ∨ (T = 145 ∧ k = 24)) (hu : Runs a b t f172_product (y :: l) l1 c1) (hr : Runs a b t (f171_l9 n) l1 l2 c2) : Runs a b t (f171_l9 (n + 1)) ((T, v0) :: y :: l) l2 (c1 ++ (k, 0) :: c2) := by
  refine runs_next hb ha (g := fun M7 => (f172_product M7).bind fun x => if x.1 = 0 then some ((0 : Int32), x.2) else (f174_lay (znn k) (0 : Int32) x.2).bind fun M10 => f171_l9 n M10) (runs_seq hu (runs_lay (q := (k, 0)) (h := fun B => (f174_lay (znn k) (0 : Int32) B).bind fun M10 => f171_l9 n M10) hr (fun B B1 e => ?_)) (fun B B1 e => ?_)) (fun B B1 hB e => ?_)
  · show (f174_lay (znn k) (znn 0) B).bind _ = _
    rw [e]; rfl
  · simp only [e, Option.bind_some]
    rw [if_neg (by decide)]
  · simp only [f171_l9, zlet]
    rcases hT with ⟨rfl, rfl⟩ | ⟨rfl, rfl⟩
    · rw [hB, if_pos rfl, if_pos rfl]
      simp only [Option.bind_some]
      rw [e]
      rfl
    · rw [hB, if_neg (show ¬ (145 : Int32) = 143 by decide), if_pos rfl, if_neg (show ¬ (145 : Int32) = 143 by decide)]
      simp only [Option.bind_some]
      rw [e]
      rfl
theorem run_sum {a t : Nat} {b : Nat → Nat} {l l1 l2 : List (Int32 × Nat)} {c1 c2 : List (Nat × Nat)} (hu : Runs a b t f172_product l l1 c1) (hr : Runs a b t (f171_l9 zfu) l1 l2 c2) : Runs a b t f171_sumUp l l2 (c1 ++ c2) :=
  runs_seq hu hr (fun B B1 e => by
    unfold f171_sumUp
    rw [e]
    simp only [Option.bind_some]
    rw [if_neg (by decide)])
