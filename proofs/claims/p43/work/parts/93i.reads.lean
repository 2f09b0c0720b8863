-- ===== THE LAW read =====
theorem loop_line {a t n w vw v0 : Nat} {b : Nat → Nat} {B : ZI} {y z : Int32 × Nat} {l l1 l4 : List (Int32 × Nat)} {cs c1 c2 : List (Nat × Nat)} {ls : List (Nat × Nat × Nat × Nat)} (hb : tapB b t) (ha : a ≤ 3) (hw : 20 ≤ w ∧ w ≤ 22) (hP : pT a b t B ((znn w, vw) :: y :: l)) (hC : coded B cs) (hLn : lined B ls) (hL16 : ls.length < 16) (hlen : cs.length + (c1.length + c2.length) ≤ 400) (hs : Runs a b t f171_sumUp (y :: l) l1 c1)
    (hc : (l1 = (159, v0) :: z :: l4 ∧ c2 = []) ∨ ∃ v y2 l2, l1 = (3, v) :: y2 :: l2 ∧ RunsD a b t 0 (f175_any zgf) (y2 :: l2) ((159, v0) :: z :: l4) c2) :
    ∃ B', f168_l12 (n + 1) 1 B = f168_l12 n 1 B' ∧ pT a b t B' (z :: l4) ∧ coded B' (cs ++ (c1 ++ c2)) ∧ kpM B B' ∧ lined B' (ls ++ [(cs.length, cs.length + c1.length, cs.length + (c1.length + c2.length), w)]) := by
  obtain ⟨B1, e1, e2, e3, e4, e5, e6⟩ := line_run hb ha hw hP hC hLn hL16 hlen hs hc
  refine ⟨zs B1 148 15 (znn (ls.length + 1)), ?_, pT_of e2 (zs_df (by decide)) (fun j hj => by rw [zs_sm, if_neg (by omega)]), coded_of e3 (zs_df (by decide)) (by rw [zs_sm, if_neg (by decide)]), kpM_trans e4 ⟨fun o q1 _ _ => zs_df q1, fun j q1 _ _ _ _ _ _ => by rw [zs_sm, if_neg q1]⟩, e6⟩
  simp only [f168_l12]
  rw [if_neg (by decide), show B 148 21 = znn w from hP.2.2.1, if_neg (show ¬ znn w = 0 by rw [zl0, zn_eq (by omega) (by decide)]; omega), e1]
  simp only [Option.bind_some, zlet]
  rw [if_neg (by decide), e5, hLn.2.1, zadd1]
def lawToks (D : Nat → Nat) : List (Int32 × Nat) :=
  (20, 0) :: (43, 0) :: (147, 0) :: (2, 4) :: (143, 0) :: (2, D 2) :: (3, 0) :: (42, 0) :: (162, 0) :: (2, D 0) :: (5, 0) :: (6, 0) :: (140, 0) :: (44, 0) :: (162, 0) :: (2, D 1) :: (4, 0) :: (46, 0) :: (162, 0) :: (2, 9) :: (141, 0) :: (159, 0) ::
  (20, 0) :: (45, 0) :: (145, 0) :: (44, 0) :: (142, 0) :: (2, D 3) :: (159, 0) ::
  (21, 0) :: (49, 0) :: (147, 0) :: (2, 3) :: (143, 0) :: (48, 0) :: (3, 0) :: (49, 0) :: (162, 0) :: (2, D 4) :: (4, 0) :: (43, 0) :: (160, 0) :: (2, 3) :: (159, 0) ::
  (21, 0) :: (2, D 5) :: (159, 0) ::
  (22, 0) :: (49, 0) :: (142, 0) :: (2, D 6) :: (143, 0) :: (47, 0) :: (142, 0) :: (2, 50) :: (145, 0) :: (47, 0) :: (147, 0) :: (2, 3) :: (142, 0) :: (2, 150) :: (159, 0) :: (0, 0) :: []
def lawCode (D : Nat → Nat) : List (Nat × Nat) :=
  [(3, 0), (26, 4), (0, D 2), (23, 0), (2, 0), (0, D 0), (29, 0), (4, 0), (0, D 1), (29, 0), (6, 0), (0, 9), (29, 0), (32, 0), (30, 0), (31, 0),
   (5, 0), (4, 0), (0, D 3), (25, 0), (24, 0),
   (9, 0), (26, 3), (8, 0), (23, 0), (9, 0), (0, D 4), (29, 0), (3, 0), (0, 3), (27, 0), (32, 0),
   (0, D 5),
   (9, 0), (0, D 6), (25, 0), (7, 0), (0, 50), (25, 0), (23, 0), (7, 0), (26, 3), (0, 150), (25, 0), (24, 0)]
def lawLines : List (Nat × Nat × Nat × Nat) := [(0, 4, 16, 20), (16, 21, 21, 20), (21, 25, 32, 21), (32, 33, 33, 21), (33, 45, 45, 22)]
theorem reads_law {a t : Nat} {b : Nat → Nat} {B : ZI} {D : Nat → Nat} (hb : tapB b t) (ha : a ≤ 3) (hP : pT a b t B (lawToks D)) : ∃ B', f168_readsLaw B = some (1, B') ∧ coded B' (lawCode D) ∧ lined B' lawLines ∧ kpM B B' := by
  have hP0 : pT a b t (zs (zs B 148 15 0) 148 16 0) (lawToks D) := pT_of hP (by rw [zs_df (by decide), zs_df (by decide)]) (fun j hj => by rw [zs_sm, if_neg (by omega), zs_sm, if_neg (by omega)])
  have hC0 : coded (zs (zs B 148 15 0) 148 16 0) [] := ⟨by simp, by rw [zs_sm, if_pos rfl]; rfl, fun i hi => absurd hi (by simp)⟩
  have hL0 : lined (zs (zs B 148 15 0) 148 16 0) [] := ⟨by simp, by rw [zs_sm, if_neg (by decide), zs_sm, if_pos rfl]; rfl, fun i hi => absurd hi (by simp)⟩
  obtain ⟨B1, e1, p1, c1, k1, l1⟩ := loop_line (n := 99999) (w := 20) hb ha (by decide) hP0 hC0 hL0 (by simp) (by simp) (law_1 hb ha) (Or.inr ⟨_, _, _, rfl, w_when1 hb ha⟩)
  obtain ⟨B2, e2, p2, c2, k2, l2⟩ := loop_line (n := 99998) (w := 20) (c2 := []) hb ha (by decide) p1 c1 l1 (by simp) (by simp) (law_2 hb ha) (Or.inl ⟨rfl, rfl⟩)
  obtain ⟨B3, e3, p3, c3, k3, l3⟩ := loop_line (n := 99997) (w := 21) hb ha (by decide) p2 c2 l2 (by simp) (by simp) (law_3 hb ha) (Or.inr ⟨_, _, _, rfl, w_when3 hb ha⟩)
  obtain ⟨B4, e4, p4, c4, k4, l4⟩ := loop_line (n := 99996) (w := 21) (c2 := []) hb ha (by decide) p3 c3 l3 (by simp) (by simp) (s_one (u_num hb ha) (by decide) (by decide) (by decide) (by decide)) (Or.inl ⟨rfl, rfl⟩)
  obtain ⟨B5, e5, p5, c5, k5, l5⟩ := loop_line (n := 99995) (w := 22) (c2 := []) hb ha (by decide) p4 c4 l4 (by simp) (by simp) (law_5 hb ha) (Or.inl ⟨rfl, rfl⟩)
  refine ⟨B5, ?_, c5, l5, kpM_trans (kpM_trans ⟨fun o q1 _ _ => by rw [zs_df q1, zs_df q1], fun j q1 q2 _ _ _ _ _ => by rw [zs_sm, if_neg q2, zs_sm, if_neg q1]⟩ k1) (kpM_trans k2 (kpM_trans k3 (kpM_trans k4 k5)))⟩
  have e6 : f168_l12 99995 1 B5 = some (1, B5) := by
    show f168_l12 (99994 + 1) 1 B5 = _
    rw [f168_l12, if_neg (by decide), show B5 148 21 = 0 from p5.2.2.1, if_pos rfl]
  have e : f168_l12 zfu 1 (zs (zs B 148 15 0) 148 16 0) = some (1, B5) := by
    rw [zfu_succ]
    exact e1.trans (e2.trans (e3.trans (e4.trans (e5.trans e6))))
  unfold f168_readsLaw
  simp only [zlet]
  rw [e]
  rfl
