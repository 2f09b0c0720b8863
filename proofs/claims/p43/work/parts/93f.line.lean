-- ===== a line of THE LAW, read forward =====
def lined (B : ZI) (ls : List (Nat × Nat × Nat × Nat)) : Prop := ls.length ≤ 16 ∧ B 148 15 = znn ls.length ∧ ∀ i, i < ls.length → B 153 (4 * i) = znn (ls.getD i (0, 0, 0, 0)).1 ∧ B 153 (4 * i + 1) = znn (ls.getD i (0, 0, 0, 0)).2.1 ∧ B 153 (4 * i + 2) = znn (ls.getD i (0, 0, 0, 0)).2.2.1 ∧ B 153 (4 * i + 3) = znn (ls.getD i (0, 0, 0, 0)).2.2.2
def kpM (B B' : ZI) : Prop := (∀ o, o ≠ 148 → o ≠ 153 → o ≠ 154 → B' o = B o) ∧ ∀ j, j ≠ 15 → j ≠ 16 → j ≠ 20 → j ≠ 21 → j ≠ 22 → j ≠ 23 → j ≠ 27 → B' 148 j = B 148 j
theorem kpM_trans {A B C : ZI} (h1 : kpM A B) (h2 : kpM B C) : kpM A C := ⟨fun o a b c => (h2.1 o a b c).trans (h1.1 o a b c), fun j a b c d e f g => (h2.2 j a b c d e f g).trans (h1.2 j a b c d e f g)⟩
theorem kpM_of {A B : ZI} (h : kpD A B) : kpM A B := ⟨fun o a _ c => h.1 o a c, fun j _ b c d e f g => h.2 j b c d e f g⟩
/-- the tail of a line: its last place, and the semicolon -/
theorem line_tail {a t v0 L : Nat} {b : Nat → Nat} {B : ZI} {z : Int32 × Nat} {l : List (Int32 × Nat)} {cs : List (Nat × Nat)} (hb : tapB b t) (ha : a ≤ 3) (hP : pT a b t B ((159, v0) :: z :: l)) (hC : coded B cs) (hL : B 148 15 = znn L) (hL16 : L < 16) : ∃ B', (if zin ((4 : Int32) * (B 148 15) + 2) 64 = true then (f179_need 159 (zs B 153 (zi ((4 : Int32) * (B 148 15) + 2)) (B 148 16))).bind fun x => if zbl x.1 = true then some (x.1, x.2) else none else none) = some ((1 : Int32), B') ∧ pT a b t B' (z :: l) ∧ coded B' cs ∧ (∀ o, o ≠ 148 → o ≠ 153 → B' o = B o) ∧ (∀ j, j ≠ 20 → j ≠ 21 → j ≠ 22 → j ≠ 23 → B' 148 j = B 148 j) ∧ (∀ j, B' 153 j = if j = 4 * L + 2 then znn cs.length else B 153 j) := by
  have e1 : (4 : Int32) * znn L + 2 = znn (4 * L + 2) := by rw [zl4, zn_mul, zl2, zn_add]
  have hP1 : pT a b t (zs B 153 (4 * L + 2) (znn cs.length)) ((159, v0) :: z :: l) := pT_of hP (zs_df (by decide)) (fun j _ => by rw [zs_df (by decide)])
  obtain ⟨B1, n1, n2, n3, n4, n5⟩ := need_r hb ha hP1 (coded_of hC (zs_df (by decide)) (by rw [zs_df (by decide)]))
  refine ⟨B1, ?_, n2, n3, fun o q1 q2 => by rw [n4 o q1, zs_df q2], fun j q1 q2 q3 q4 => by rw [n5 j q1 q2 q3 q4, zs_df (by decide)], fun j => by rw [n4 153 (by decide), zs_sm]⟩
  rw [hL, e1, if_pos ((zn_zin (by omega)).mpr (by omega)), zn_zi (by omega), hC.2.1, n1]
  rfl
theorem line_run {a t w vw v0 : Nat} {b : Nat → Nat} {B : ZI} {y z : Int32 × Nat} {l l1 l4 : List (Int32 × Nat)} {cs c1 c2 : List (Nat × Nat)} {ls : List (Nat × Nat × Nat × Nat)} (hb : tapB b t) (ha : a ≤ 3) (hw : 20 ≤ w ∧ w ≤ 22) (hP : pT a b t B ((znn w, vw) :: y :: l)) (hC : coded B cs) (hLn : lined B ls) (hL16 : ls.length < 16) (hlen : cs.length + (c1.length + c2.length) ≤ 400) (hs : Runs a b t f171_sumUp (y :: l) l1 c1)
    (hc : (l1 = (159, v0) :: z :: l4 ∧ c2 = []) ∨ ∃ v y2 l2, l1 = (3, v) :: y2 :: l2 ∧ RunsD a b t 0 (f175_any zgf) (y2 :: l2) ((159, v0) :: z :: l4) c2) :
    ∃ B', f169_aLine B = some (1, B') ∧ pT a b t B' (z :: l4) ∧ coded B' (cs ++ (c1 ++ c2)) ∧ kpM B B' ∧ B' 148 15 = B 148 15 ∧ lined (zs B' 148 15 (znn (ls.length + 1))) (ls ++ [(cs.length, cs.length + c1.length, cs.length + (c1.length + c2.length), w)]) := by
  obtain ⟨n1, n2, n3⟩ := hLn
  have L4 : ∀ r : Nat, (4 : Int32) * znn ls.length + znn r = znn (4 * ls.length + r) := fun r => by rw [zl4, zn_mul, zn_add]
  have L0 : (4 : Int32) * znn ls.length = znn (4 * ls.length) := by rw [zl4, zn_mul]
  -- its word
  have hP1 : pT a b t (zs (zs B 148 27 0) 153 (4 * ls.length + 3) (znn w)) ((znn w, vw) :: y :: l) := pT_of hP (by rw [zs_df (by decide), zs_df (by decide)]) (fun j hj => by rw [zs_df (by decide), zs_sm, if_neg (by omega)])
  obtain ⟨B1, e1, e2, e3, e4⟩ := ps_next hb ha hP1
  have hC1 : coded B1 cs := coded_of hC (by rw [e3 154 (by decide), zs_df (by decide), zs_df (by decide)]) (by rw [e4 16 (by decide) (by decide) (by decide) (by decide), zs_df (by decide), zs_sm, if_neg (by decide)])
  have h15 : B1 148 15 = znn ls.length := by rw [e4 15 (by decide) (by decide) (by decide) (by decide), zs_df (by decide), zs_sm, if_neg (by decide)]; exact n2
  have h27 : B1 148 27 = znn 0 := by rw [e4 27 (by decide) (by decide) (by decide) (by decide), zs_df (by decide), zs_sm, if_pos rfl]; rfl
  -- its sum
  have hP2 : pT a b t (zs B1 153 (4 * ls.length) (znn cs.length)) (y :: l) := pT_of e2 (zs_df (by decide)) (fun j _ => by rw [zs_df (by decide)])
  obtain ⟨B2, f1, f2, f3, f4⟩ := hs _ cs hP2 (coded_of hC1 (zs_df (by decide)) (by rw [zs_df (by decide)])) (by omega)
  have b15 : B2 148 15 = znn ls.length := by rw [f4.2 15 (by decide) (by decide) (by decide) (by decide) (by decide), zs_df (by decide)]; exact h15
  have b27 : B2 148 27 = znn 0 := by rw [f4.2 27 (by decide) (by decide) (by decide) (by decide) (by decide), zs_df (by decide)]; exact h27
  have hP3 : pT a b t (zs B2 153 (4 * ls.length + 1) (znn (cs ++ c1).length)) l1 := pT_of f2 (zs_df (by decide)) (fun j _ => by rw [zs_df (by decide)])
  have hC3 : coded (zs B2 153 (4 * ls.length + 1) (znn (cs ++ c1).length)) (cs ++ c1) := coded_of f3 (zs_df (by decide)) (by rw [zs_df (by decide)])
  -- when
  have hwhen : ∃ B3, pT a b t B3 ((159, v0) :: z :: l4) ∧ coded B3 (cs ++ c1 ++ c2) ∧ kpD (zs B2 153 (4 * ls.length + 1) (znn (cs ++ c1).length)) B3 ∧
      ∀ g : ZI → Option (Int32 × ZI), (if (zs B2 153 (4 * ls.length + 1) (znn (cs ++ c1).length)) 148 21 = (3 : Int32) then (f157_next0 (zs B2 153 (4 * ls.length + 1) (znn (cs ++ c1).length))).bind fun M14 => (f175_any zgf M14).bind fun x => (if x.1 = 0 then some ((0 : Int32), x.2) else g x.2) else g (zs B2 153 (4 * ls.length + 1) (znn (cs ++ c1).length))) = g B3 := by
    rcases hc with ⟨rfl, rfl⟩ | ⟨v, y2, l2, rfl, hr⟩
    · refine ⟨_, hP3, by rw [List.append_nil]; exact hC3, kpD_refl _, fun g => ?_⟩
      rw [show (zs B2 153 (4 * ls.length + 1) (znn (cs ++ c1).length)) 148 21 = 159 from hP3.2.2.1, if_neg (by decide)]
    · obtain ⟨B4, g1, g2, g3, g4⟩ := ps_next hb ha hP3
      obtain ⟨B5, k1, k2, k3, k4, k5⟩ := hr B4 (cs ++ c1) g2 (coded_of hC3 (g3 154 (by decide)) (g4 16 (by decide) (by decide) (by decide) (by decide))) (by rw [g4 27 (by decide) (by decide) (by decide) (by decide), zs_df (by decide)]; exact b27) (by simp; omega)
      refine ⟨B5, k2, k3, kpD_trans ⟨fun o q1 _ => g3 o q1, fun j _ q2 q3 q4 q5 _ => g4 j q2 q3 q4 q5⟩ k5, fun g => ?_⟩
      rw [show (zs B2 153 (4 * ls.length + 1) (znn (cs ++ c1).length)) 148 21 = 3 from hP3.2.2.1, if_pos rfl, g1]
      simp only [Option.bind_some]
      rw [k1]
      simp only [Option.bind_some]
      rw [if_neg (by decide)]
  obtain ⟨B3, w1, w2, w3, w4⟩ := hwhen
  have c15 : B3 148 15 = znn ls.length := by rw [w3.2 15 (by decide) (by decide) (by decide) (by decide) (by decide) (by decide), zs_df (by decide)]; exact b15
  obtain ⟨B6, t1, t2, t3, t4, t5, t6⟩ := line_tail hb ha w1 w2 c15 hL16
  refine ⟨B6, ?_, t2, by rw [← List.append_assoc]; exact t3, ⟨fun o q1 q2 q3 => ?_, fun j q1 q2 q3 q4 q5 q6 q7 => ?_⟩, ?_, ⟨by simp; omega, by rw [zs_sm, if_pos rfl]; simp, fun i hi => ?_⟩⟩
  · have hin : f149_isIn (znn w) 20 22 = some 1 := in_yes (lo := 20) (hi := 22) hw.1 hw.2 (by decide)
    simp only [f169_aLine]
    rw [show B 148 21 = znn w from hP.2.2.1, hin]
    simp only [Option.bind_some]
    rw [if_neg (by decide), n2, if_neg (show ¬ znn ls.length = 16 by rw [zl16, zn_eq (by omega) (by decide)]; omega)]
    simp only [zlet]
    rw [show (zs B 148 27 0) 148 15 = znn ls.length by rw [zs_sm, if_neg (by decide)]; exact n2, show (3 : Int32) = znn 3 from rfl, L4, if_pos ((zn_zin (by omega)).mpr (by omega)), zn_zi (by omega), show (zs B 148 27 0) 148 21 = znn w by rw [zs_sm, if_neg (by decide)]; exact hP.2.2.1, e1]
    simp only [Option.bind_some]
    rw [h15, L0, if_pos ((zn_zin (by omega)).mpr (by omega)), zn_zi (by omega), hC1.2.1, f1]
    simp only [Option.bind_some]
    rw [if_neg (by decide), b15, show (1 : Int32) = znn 1 from rfl, L4, if_pos ((zn_zin (by omega)).mpr (by omega)), zn_zi (by omega), f3.2.1]
    exact (w4 (fun M9 => if zin ((4 : Int32) * (M9 148 15) + 2) 64 = true then (f179_need 159 (zs M9 153 (zi ((4 : Int32) * (M9 148 15) + 2)) (M9 148 16))).bind fun x => if zbl x.1 = true then some (x.1, x.2) else none else none)).trans t1
  · rw [t4 o q1 q2, w3.1 o q1 q3, zs_df q2, f4.1 o q1 q3, zs_df q2, e3 o q1, zs_df q2, zs_df q1]
  · rw [t5 j q3 q4 q5 q6, w3.2 j q2 q3 q4 q5 q6 q7, zs_df (by decide), f4.2 j q2 q3 q4 q5 q6, zs_df (by decide), e4 j q3 q4 q5 q6, zs_df (by decide), zs_sm, if_neg q7]
  · rw [t5 15 (by decide) (by decide) (by decide) (by decide), c15, n2]
  · have cell : ∀ j, B6 153 j = if j = 4 * ls.length + 2 then znn (cs ++ c1 ++ c2).length else if j = 4 * ls.length + 1 then znn (cs ++ c1).length else if j = 4 * ls.length then znn cs.length else if j = 4 * ls.length + 3 then znn w else B 153 j := fun j => by
      rw [t6 j, w3.1 153 (by decide) (by decide), zs_sm, f4.1 153 (by decide) (by decide), zs_sm, e3 153 (by decide), zs_sm, zs_df (show (153 : Nat) ≠ 148 by decide)]
    simp only [zs_df (show (153 : Nat) ≠ 148 by decide), cell]
    simp only [List.length_append, List.length_cons, List.length_nil] at hi
    by_cases hil : i < ls.length
    · have eg : (ls ++ [(cs.length, cs.length + c1.length, cs.length + (c1.length + c2.length), w)]).getD i (0, 0, 0, 0) = ls.getD i (0, 0, 0, 0) := by
        rw [List.getD_eq_getElem?_getD, List.getElem?_append_left hil, ← List.getD_eq_getElem?_getD]
      rw [eg]
      obtain ⟨m1, m2, m3, m4⟩ := n3 i hil
      refine ⟨?_, ?_, ?_, ?_⟩
      · rw [if_neg (by omega), if_neg (by omega), if_neg (by omega), if_neg (by omega)]; exact m1
      · rw [if_neg (by omega), if_neg (by omega), if_neg (by omega), if_neg (by omega)]; exact m2
      · rw [if_neg (by omega), if_neg (by omega), if_neg (by omega), if_neg (by omega)]; exact m3
      · rw [if_neg (by omega), if_neg (by omega), if_neg (by omega), if_neg (by omega)]; exact m4
    · have hi2 : i = ls.length := by omega
      subst hi2
      have eg : (ls ++ [(cs.length, cs.length + c1.length, cs.length + (c1.length + c2.length), w)]).getD ls.length (0, 0, 0, 0) = (cs.length, cs.length + c1.length, cs.length + (c1.length + c2.length), w) := by
        rw [List.getD_eq_getElem?_getD, List.getElem?_append_right (Nat.le_refl _), Nat.sub_self]
        rfl
      rw [eg]
      refine ⟨?_, ?_, ?_, ?_⟩
      · rw [if_neg (by omega), if_neg (by omega), if_pos rfl]
      · rw [if_neg (by omega), if_pos rfl, List.length_append]
      · rw [if_pos rfl, List.length_append, List.length_append, Nat.add_assoc]
      · rw [if_neg (by omega), if_neg (by omega), if_neg (by omega), if_pos rfl]
