-- ===== tests, as they are read forward; the depth comes back =====
def kpD (B B' : ZI) : Prop := (∀ o, o ≠ 148 → o ≠ 154 → B' o = B o) ∧ ∀ j, j ≠ 16 → j ≠ 20 → j ≠ 21 → j ≠ 22 → j ≠ 23 → j ≠ 27 → B' 148 j = B 148 j
theorem kpD_trans {A B C : ZI} (h1 : kpD A B) (h2 : kpD B C) : kpD A C := ⟨fun o a b => (h2.1 o a b).trans (h1.1 o a b), fun j a b c d e f => (h2.2 j a b c d e f).trans (h1.2 j a b c d e f)⟩
theorem kpD_of {A B : ZI} (h : kpL A B) : kpD A B := ⟨h.1, fun j a b c d e _ => h.2 j a b c d e⟩
theorem kpD_refl (B : ZI) : kpD B B := ⟨fun _ _ _ => rfl, fun _ _ _ _ _ _ _ => rfl⟩
def RunsD (a : Nat) (b : Nat → Nat) (t d : Nat) (f : ZI → Option (Int32 × ZI)) (l l' : List (Int32 × Nat)) (c : List (Nat × Nat)) : Prop := ∀ B cs, pT a b t B l → coded B cs → B 148 27 = znn d → cs.length + c.length ≤ 400 → ∃ B', f B = some (1, B') ∧ pT a b t B' l' ∧ coded B' (cs ++ c) ∧ B' 148 27 = znn d ∧ kpD B B'
theorem runsD_of {a t d : Nat} {b : Nat → Nat} {f : ZI → Option (Int32 × ZI)} {l l' : List (Int32 × Nat)} {c : List (Nat × Nat)} (h : Runs a b t f l l' c) : RunsD a b t d f l l' c := by
  intro B cs hP hC h27 hl
  obtain ⟨B', e1, e2, e3, e4⟩ := h B cs hP hC hl
  exact ⟨B', e1, e2, e3, by rw [e4.2 27 (by decide) (by decide) (by decide) (by decide) (by decide)]; exact h27, kpD_of e4⟩
theorem runsD_seq {a t d : Nat} {b : Nat → Nat} {f g h : ZI → Option (Int32 × ZI)} {l l1 l2 : List (Int32 × Nat)} {c1 c2 : List (Nat × Nat)} (hf : RunsD a b t d f l l1 c1) (hg : RunsD a b t d g l1 l2 c2) (hh : ∀ B B1, pT a b t B l → f B = some (1, B1) → h B = g B1) : RunsD a b t d h l l2 (c1 ++ c2) := by
  intro B cs hP hC h27 hl
  simp only [List.length_append] at hl
  obtain ⟨B1, e1, e2, e3, e5, e4⟩ := hf B cs hP hC h27 (by omega)
  obtain ⟨B2, g1, g2, g3, g5, g4⟩ := hg B1 (cs ++ c1) e2 e3 e5 (by simp; omega)
  exact ⟨B2, (hh B B1 hP e1).trans g1, g2, by rw [← List.append_assoc]; exact g3, g5, kpD_trans e4 g4⟩
theorem runsD_next {a t d : Nat} {b : Nat → Nat} {g h : ZI → Option (Int32 × ZI)} {q y : Int32 × Nat} {l l' : List (Int32 × Nat)} {c : List (Nat × Nat)} (hb : tapB b t) (ha : a ≤ 3) (hg : RunsD a b t d g (y :: l) l' c) (hh : ∀ B B1, B 148 21 = q.1 → f157_next0 B = some B1 → h B = g B1) : RunsD a b t d h (q :: y :: l) l' c := by
  intro B cs hP hC h27 hl
  obtain ⟨B1, e1, e2, e3, e4⟩ := ps_next hb ha hP
  obtain ⟨B2, g1, g2, g3, g5, g4⟩ := hg B1 cs e2 (coded_of hC (e3 154 (by decide)) (e4 16 (by decide) (by decide) (by decide) (by decide))) (by rw [e4 27 (by decide) (by decide) (by decide) (by decide)]; exact h27) hl
  exact ⟨B2, (hh B B1 hP.2.2.1 e1).trans g1, g2, g3, g5, kpD_trans ⟨fun o q1 _ => e3 o q1, fun j _ q2 q3 q4 q5 _ => e4 j q2 q3 q4 q5⟩ g4⟩
theorem runsD_lay {a t d : Nat} {b : Nat → Nat} {g h : ZI → Option (Int32 × ZI)} {l l' : List (Int32 × Nat)} {c : List (Nat × Nat)} {q : Nat × Nat} (hg : RunsD a b t d g l l' c) (hh : ∀ B B1, f174_lay (znn q.1) (znn q.2) B = some B1 → h B = g B1) : RunsD a b t d h l l' (q :: c) := by
  intro B cs hP hC h27 hl
  simp only [List.length_cons] at hl
  obtain ⟨B1, e1, e2, e3, e4⟩ := lay_r (k := znn q.1) (v := znn q.2) (q := q) hC (by omega) rfl (fun _ => rfl)
  obtain ⟨B2, g1, g2, g3, g5, g4⟩ := hg B1 (cs ++ [q]) (pT_of hP (e3 158 (by decide) (by decide)) (fun j hj => e4 j (by omega))) e2 (by rw [e4 27 (by decide)]; exact h27) (by simp; omega)
  exact ⟨B2, (hh B B1 e1).trans g1, g2, by rw [List.append_assoc] at g3; exact g3, g5, kpD_trans ⟨e3, fun j q1 _ _ _ _ _ => e4 j q1⟩ g4⟩
theorem runsD_id {a t d : Nat} {b : Nat → Nat} {h : ZI → Option (Int32 × ZI)} {q : Int32 × Nat} {l : List (Int32 × Nat)} (hh : ∀ B, B 148 21 = q.1 → h B = some (1, B)) : RunsD a b t d h (q :: l) (q :: l) [] := by
  intro B cs hP hC h27 _
  exact ⟨B, hh B hP.2.2.1, hP, by rw [List.append_nil]; exact hC, h27, kpD_refl B⟩
theorem t_cmp {a t d k v0 v1 : Nat} {b : Nat → Nat} {T0 T : Int32} {g175 g177 : ZI → Option (Int32 × ZI)} {y : Int32 × Nat} {l l1 l2 : List (Int32 × Nat)} {c1 c2 : List (Nat × Nat)} (hb : tapB b t) (ha : a ≤ 3) (h6 : T0 ≠ 6) (h140 : T0 ≠ 140) (hT : (T = 160 ∧ k = 27) ∨ (T = 161 ∧ k = 28) ∨ (T = 162 ∧ k = 29)) (hs : Runs a b t f171_sumUp ((T0, v0) :: l) ((T, v1) :: y :: l1) c1) (hr : Runs a b t f171_sumUp (y :: l1) l2 c2) (hne : l2 ≠ []) : RunsD a b t d (f177_oneTest_b g175 g177) ((T0, v0) :: l) l2 (c1 ++ (c2 ++ [(k, 0)])) := by
  obtain ⟨q2, l2', rfl⟩ : ∃ q2 l2', l2 = q2 :: l2' := by
    cases l2 with
    | nil => exact absurd rfl hne
    | cons q l => exact ⟨q, l, rfl⟩
  have hrest : RunsD a b t d (fun M6 => (f174_lay (znn k) (0 : Int32) M6).bind fun M7 => some ((1 : Int32), M7)) (q2 :: l2') (q2 :: l2') [(k, 0)] := runsD_lay (q := (k, 0)) (g := fun M7 => some ((1 : Int32), M7)) (runsD_id (fun _ _ => rfl)) (fun B B1 e => by
    show (f174_lay (znn k) (znn 0) B).bind _ = _
    rw [e]; rfl)
  refine runsD_seq (g := fun M2 => (((if (M2 148 21) = (160 : Int32) then some (27 : Int32) else (if (M2 148 21) = (161 : Int32) then some (28 : Int32) else (if (M2 148 21) = (162 : Int32) then some (29 : Int32) else some (-1 : Int32)))) : Option (Int32)).bind fun v3 =>
  (if v3 = (-1 : Int32) then (f170_bad (1 : Int32) M2).bind fun (v8, M9) => if zbl v8 = true then some (v8, M9) else none else (f157_next0 M2).bind fun M4 => (f171_sumUp M4).bind fun (v5, M6) => (if v5 = 0 then some ((0 : Int32), M6) else (f174_lay v3 (0 : Int32) M6).bind fun M7 => some ((1 : Int32), M7))))) (runsD_of hs) ?_ (fun B B1 hP e => ?_)
  · refine runsD_next hb ha (g := fun M4 => (f171_sumUp M4).bind fun x => if x.1 = 0 then some ((0 : Int32), x.2) else (f174_lay (znn k) (0 : Int32) x.2).bind fun M7 => some ((1 : Int32), M7)) (runsD_seq (runsD_of hr) hrest (fun B B1 _ e => ?_)) (fun B B1 hB e => ?_)
    · simp only [e, Option.bind_some]
      rw [if_neg (by decide)]
    · rw [hB]
      rcases hT with ⟨rfl, rfl⟩ | ⟨rfl, rfl⟩ | ⟨rfl, rfl⟩
      · rw [if_pos (show (160 : Int32) = 160 from rfl)]
        simp only [Option.bind_some]
        rw [if_neg (by decide), e]
        rfl
      · rw [if_neg (show ¬ (161 : Int32) = 160 by decide), if_pos (show (161 : Int32) = 161 from rfl)]
        simp only [Option.bind_some]
        rw [if_neg (by decide), e]
        rfl
      · rw [if_neg (show ¬ (162 : Int32) = 160 by decide), if_neg (show ¬ (162 : Int32) = 161 by decide), if_pos (show (162 : Int32) = 162 from rfl)]
        simp only [Option.bind_some]
        rw [if_neg (by decide), e]
        rfl
  · have h21 : B 148 21 = T0 := hP.2.2.1
    simp only [f177_oneTest_b]
    rw [h21, if_neg h6, if_neg h140, e]
    simp only [Option.bind_some]
    rw [if_neg (by decide)]
