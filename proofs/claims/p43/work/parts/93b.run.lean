-- ===== reading forward: runs of the reference over a stream of tokens =====
def stream (a : Nat) (b : Nat → Nat) (t : Nat) : List (Int32 × Nat) → Nat → Prop
  | [], _ => True
  | q :: l, i => ∃ s e, lexAt a b t i s e q.1 q.2 ∧ stream a b t l e
def pT (a : Nat) (b : Nat → Nat) (t : Nat) (B : ZI) : List (Int32 × Nat) → Prop
  | [] => False
  | q :: l => onB B b t ∧ B 148 14 = znn a ∧ B 148 21 = q.1 ∧ (q.1 = 2 → B 148 23 = znn q.2) ∧ ∃ i, i ≤ t ∧ B 148 20 = znn i ∧ stream a b t l i
def coded (B : ZI) (cs : List (Nat × Nat)) : Prop := cs.length ≤ 400 ∧ B 148 16 = znn cs.length ∧ ∀ i, i < cs.length → B 154 (2 * i) = znn (cs.getD i (0, 0)).1 ∧ ((cs.getD i (0, 0)).1 = 0 ∨ (cs.getD i (0, 0)).1 = 26 → B 154 (2 * i + 1) = znn (cs.getD i (0, 0)).2)
/-- the tokens and the steps, and nothing else -/
def kpL (B B' : ZI) : Prop := (∀ o, o ≠ 148 → o ≠ 154 → B' o = B o) ∧ ∀ j, j ≠ 16 → j ≠ 20 → j ≠ 21 → j ≠ 22 → j ≠ 23 → B' 148 j = B 148 j
theorem kpL_refl (B : ZI) : kpL B B := ⟨fun _ _ _ => rfl, fun _ _ _ _ _ _ => rfl⟩
theorem kpL_trans {A B C : ZI} (h1 : kpL A B) (h2 : kpL B C) : kpL A C := ⟨fun o a b => (h2.1 o a b).trans (h1.1 o a b), fun j a b c d e => (h2.2 j a b c d e).trans (h1.2 j a b c d e)⟩
theorem ps_next {a t : Nat} {b : Nat → Nat} {B : ZI} {q y : Int32 × Nat} {l : List (Int32 × Nat)} (hb : tapB b t) (ha : a ≤ 3) (h : pT a b t B (q :: y :: l)) : ∃ B', f157_next0 B = some B' ∧ pT a b t B' (y :: l) ∧ (∀ o, o ≠ 148 → B' o = B o) ∧ ∀ j, j ≠ 20 → j ≠ 21 → j ≠ 22 → j ≠ 23 → B' 148 j = B 148 j := by
  obtain ⟨h1, h2, h3, h4, i, h5, h6, s, e, h7, h8⟩ := h
  obtain ⟨B', g1, g2, g3, g4, g5, g6, g7⟩ := next_tok hb h1 h2 ha h6 h5 h7
  refine ⟨B', g1, ⟨⟨by rw [g7 19 (by decide) (by decide) (by decide) (by decide)]; exact h1.1, fun i hi => by rw [g6 158 (by decide)]; exact h1.2 i hi⟩, by rw [g7 14 (by decide) (by decide) (by decide) (by decide)]; exact h2, g3, g5, e, h7.2.1, g2, h8⟩, g6, g7⟩
theorem lay_r {B : ZI} {cs : List (Nat × Nat)} {k v : Int32} {q : Nat × Nat} (h : coded B cs) (hl : cs.length < 400) (hk : k = znn q.1) (hv : q.1 = 0 ∨ q.1 = 26 → v = znn q.2) : ∃ B', f174_lay k v B = some B' ∧ coded B' (cs ++ [q]) ∧ (∀ o, o ≠ 148 → o ≠ 154 → B' o = B o) ∧ ∀ j, j ≠ 16 → B' 148 j = B 148 j := by
  obtain ⟨h1, h2, h3⟩ := h
  have e1 : (2 : Int32) * znn cs.length = znn (2 * cs.length) := by rw [zl2, zn_mul]
  have e2 : znn (2 * cs.length) + 1 = znn (2 * cs.length + 1) := zadd1 _
  refine ⟨zs (zs (zs B 154 (2 * cs.length) k) 154 (2 * cs.length + 1) v) 148 16 (znn (cs.length + 1)), ?_, ⟨by simp; omega, by rw [zs_sm, if_pos rfl]; simp, fun i hi => ?_⟩, fun o q1 q2 => by rw [zs_df q1, zs_df q2, zs_df q2], fun j hj => by rw [zs_sm, if_neg hj, zs_df (by decide), zs_df (by decide)]⟩
  · unfold f174_lay
    rw [h2, e1, if_pos ((zn_zin (by omega)).mpr (by omega)), zn_zi (by omega)]
    simp only [zlet]
    rw [zs_df (show (148 : Nat) ≠ 154 by decide), h2, e1, e2, if_pos ((zn_zin (by omega)).mpr (by omega)), zn_zi (by omega)]
    simp only [zs_df (show (148 : Nat) ≠ 154 by decide), h2]
    rw [zadd1]
  · rw [zs_df (by decide), zs_sm, zs_sm, zs_sm, zs_sm]
    simp only [List.length_append, List.length_cons, List.length_nil] at hi
    by_cases hic : i < cs.length
    · have eg : (cs ++ [q]).getD i (0, 0) = cs.getD i (0, 0) := by
        rw [List.getD_eq_getElem?_getD, List.getElem?_append_left hic, ← List.getD_eq_getElem?_getD]
      rw [eg, if_neg (by omega), if_neg (by omega), if_neg (by omega), if_neg (by omega)]
      exact h3 i hic
    · have hi2 : i = cs.length := by omega
      subst hi2
      have eg : (cs ++ [q]).getD cs.length (0, 0) = q := by
        rw [List.getD_eq_getElem?_getD, List.getElem?_append_right (Nat.le_refl _), Nat.sub_self]
        rfl
      rw [eg, if_neg (by omega), if_pos rfl, if_pos rfl]
      exact ⟨hk, hv⟩
theorem coded_of {B B' : ZI} {cs : List (Nat × Nat)} (h : coded B cs) (h1 : B' 154 = B 154) (h2 : B' 148 16 = B 148 16) : coded B' cs := ⟨h.1, h2.trans h.2.1, fun i hi => by rw [h1]; exact h.2.2 i hi⟩
theorem pT_of {a t : Nat} {b : Nat → Nat} {B B' : ZI} {l : List (Int32 × Nat)} (h : pT a b t B l) (h1 : B' 158 = B 158) (h2 : ∀ j, j = 14 ∨ j = 19 ∨ j = 20 ∨ j = 21 ∨ j = 23 → B' 148 j = B 148 j) : pT a b t B' l := by
  cases l with
  | nil => exact h
  | cons q l =>
    obtain ⟨g1, g2, g3, g4, i, g5, g6, g7⟩ := h
    exact ⟨⟨(h2 19 (by simp)).trans g1.1, fun i hi => by rw [h1]; exact g1.2 i hi⟩, (h2 14 (by simp)).trans g2, (h2 21 (by simp)).trans g3, fun hh => (h2 23 (by simp)).trans (g4 hh), i, g5, (h2 20 (by simp)).trans g6, g7⟩
/-- f reads the tokens up to those that are left and lays the steps -/
def Runs (a : Nat) (b : Nat → Nat) (t : Nat) (f : ZI → Option (Int32 × ZI)) (l l' : List (Int32 × Nat)) (c : List (Nat × Nat)) : Prop := ∀ B cs, pT a b t B l → coded B cs → cs.length + c.length ≤ 400 → ∃ B', f B = some (1, B') ∧ pT a b t B' l' ∧ coded B' (cs ++ c) ∧ kpL B B'
theorem run_unit {a t : Nat} {b : Nat → Nat} {q y : Int32 × Nat} {l : List (Int32 × Nat)} {k : Nat} (hb : tapB b t) (ha : a ≤ 3) (hq : (q.1 = 2 ∧ k = 0) ∨ (q.1 = znn (40 + k) ∧ 1 ≤ k ∧ k ≤ 9)) : Runs a b t f173_unit (q :: y :: l) (y :: l) [(k, q.2)] := by
  intro B cs hP hC hlen
  obtain ⟨h1, h2, h3, h4, -⟩ := id hP
  have hstep : ∀ kk : Int32, kk = znn k → (k = 0 → q.1 = 2) → k ≠ 26 → ∃ B', ((f174_lay kk (B 148 23) B).bind fun M4 => (f157_next0 M4).bind fun M5 => some ((1 : Int32), M5)) = some (1, B') ∧ pT a b t B' (y :: l) ∧ coded B' (cs ++ [(k, q.2)]) ∧ kpL B B' := by
    intro kk hk h0 h26
    obtain ⟨B1, e1, e2, e3, e4⟩ := lay_r (k := kk) (v := B 148 23) (q := (k, q.2)) hC (by simp at hlen; omega) hk (fun hh => by
      rcases hh with hh | hh
      · exact h4 (h0 hh)
      · exact absurd hh h26)
    have hP1 : pT a b t B1 (q :: y :: l) := pT_of hP (e3 158 (by decide) (by decide)) (fun j hj => e4 j (by omega))
    obtain ⟨B2, g1, g2, g3, g4⟩ := ps_next hb ha hP1
    rw [e1]
    simp only [Option.bind_some]
    rw [g1]
    refine ⟨B2, rfl, g2, coded_of e2 (g3 154 (by decide)) (g4 16 (by decide) (by decide) (by decide) (by decide)), ⟨fun o q1 q2 => by rw [g3 o q1]; exact e3 o q1 q2, fun j q0 q1 q2 q3 q4 => by rw [g4 j q1 q2 q3 q4]; exact e4 j q0⟩⟩
  unfold f173_unit
  rw [h3]
  rcases hq with ⟨hq, rfl⟩ | ⟨hq, hk1, hk9⟩
  · rw [hq, show f149_isIn 2 41 49 = some 0 by decide]
    simp only [Option.bind_some, zlet, if_true]
    exact hstep 0 rfl (fun _ => hq) (by decide)
  · have h41 : f149_isIn (znn (40 + k)) 41 49 = some 1 := in_yes (lo := 41) (hi := 49) (by omega) (by omega) (by decide)
    have hn2 : ¬ znn (40 + k) = 2 := by rw [zl2, zn_eq (by omega) (by omega)]; omega
    rw [hq, h41]
    simp only [Option.bind_some, zlet]
    rw [if_neg hn2, if_neg (by decide), if_neg (by decide)]
    simp only [Option.bind_some]
    rw [h3, hq]
    exact hstep _ (by rw [zl40, zn_sub (by omega)]; congr 1; omega) (fun h => by omega) (by omega)
