-- ===== WORKS told, read forward =====
theorem after_n {B : ZI} {r : Nat} (h17 : B 148 17 = znn r) (hr : r < 12) (h21 : B 148 21 ≠ 13) : f186_anAfter B = some (1, zs B 156 (6 * r + 5) (-1)) := by
  have e6 : (6 : Int32) * znn r + 5 = znn (6 * r + 5) := by rw [zl6, zn_mul, show (5 : Int32) = znn 5 from rfl, zn_add]
  unfold f186_anAfter
  rw [h17, e6, if_pos ((zn_zin (by omega)).mpr (by omega)), zn_zi (by omega), zlet_e, zs_df (by decide), if_neg h21]
theorem after_s {a t r x v0 : Nat} {b : Nat → Nat} {B : ZI} {y : Int32 × Nat} {l : List (Int32 × Nat)} (hb : tapB b t) (ha : a ≤ 3) (h17 : B 148 17 = znn r) (hr : r < 12) (hx : x < r) (hsame : B 156 (6 * x) = B 156 (6 * r)) (hP : pT a b t B ((13, v0) :: (2, x) :: y :: l)) : ∃ B', f186_anAfter B = some (1, B') ∧ pT a b t B' (y :: l) ∧ (∀ o, o ≠ 148 → o ≠ 156 → B' o = B o) ∧ (∀ j, B' 156 j = if j = 6 * r + 5 then znn x else B 156 j) ∧ ∀ j, j ≠ 20 → j ≠ 21 → j ≠ 22 → j ≠ 23 → j ≠ 29 → B' 148 j = B 148 j := by
  have e6 : (6 : Int32) * znn r + 5 = znn (6 * r + 5) := by rw [zl6, zn_mul, show (5 : Int32) = znn 5 from rfl, zn_add]
  have e0 : ∀ z : Nat, (6 : Int32) * znn z + 0 = znn (6 * z) := fun z => by rw [zl6, zn_mul, show (0 : Int32) = znn 0 from rfl, zn_add, Nat.add_zero]
  have hP0 : pT a b t (zs B 156 (6 * r + 5) (-1)) ((13, v0) :: (2, x) :: y :: l) := pT_of hP (zs_df (by decide)) (fun j _ => by rw [zs_df (by decide)])
  obtain ⟨B1, e1, e2, e3, e4⟩ := ps_next hb ha hP0
  obtain ⟨B2, g1, g2, g3, g4, g5⟩ := num_r (lo := 0) (hi := r - 1) hb ha e2 (by omega) (by omega) (by omega)
  have c17 : B1 148 17 = znn r := by rw [e4 17 (by decide) (by decide) (by decide) (by decide), zs_df (by decide)]; exact h17
  have d17 : B2 148 17 = znn r := by rw [g5 17 (by decide) (by decide) (by decide) (by decide) (by decide)]; exact c17
  have c21 : B1 148 21 = 2 := e2.2.2.1
  have c23 : B1 148 23 = znn x := e2.2.2.2.1 rfl
  have hm : znn r - 1 = znn (r - 1) := by rw [zl1, zn_sub (by omega)]
  have s156 : ∀ j, j ≠ 6 * r + 5 → B1 156 j = B 156 j := fun j hj => by rw [e3 156 (by decide), zs_sm, if_neg hj]
  refine ⟨zs B2 156 (6 * r + 5) (znn x), ?_, pT_of g2 (zs_df (by decide)) (fun j _ => by rw [zs_df (by decide)]), fun o q1 q2 => by rw [zs_df q2, g4 o q1, e3 o q1, zs_df q2], fun j => ?_, fun j q1 q2 q3 q4 q5 => by rw [zs_df (by decide), g5 j q1 q2 q3 q4 q5, e4 j q1 q2 q3 q4, zs_df (by decide)]⟩
  · unfold f186_anAfter
    rw [h17, e6, if_pos ((zn_zin (by omega)).mpr (by omega)), zn_zi (by omega), zlet_e, if_pos (show (zs B 156 (6 * r + 5) (-1)) 148 21 = 13 from hP0.2.2.1), e1]
    simp only [Option.bind_some, zlet]
    rw [c21, if_pos rfl, c23, c17, if_pos ((zn_lt (by omega) (by omega)).mpr hx), e0, e0, if_pos ((zn_zin (by omega)).mpr (by omega)), if_pos ((zn_zin (by omega)).mpr (by omega)), zn_zi (by omega), zn_zi (by omega), s156 _ (by omega), s156 _ (by omega), if_pos hsame, hm, show f182_number 0 (znn (r - 1)) B1 = some (1, B2) from g1]
    simp only [Option.bind_some]
    rw [if_neg (by decide), d17, e6, if_pos ((zn_zin (by omega)).mpr (by omega)), zn_zi (by omega), g3]
  · rw [zs_sm]
    by_cases hj : j = 6 * r + 5
    · rw [if_pos hj, if_pos hj]
    · rw [if_neg hj, if_neg hj, g4 156 (by decide), s156 j hj]
def wTk (W : Nat → Nat → Nat) (A : Nat → Option Nat) : Nat → Nat → List (Int32 × Nat)
  | 0, _ => [(0, 0)]
  | m + 1, k => (8, 0) :: (2, W k 0) :: (9, 0) :: (2, W k 1) :: (10, 0) :: (2, W k 2) :: (11, 0) :: (2, W k 3) :: (12, 0) :: (2, W k 4) :: (match A k with
    | none => (159, 0) :: wTk W A m (k + 1)
    | some x => (13, 0) :: (2, x) :: (159, 0) :: wTk W A m (k + 1))
def wTx (W : Nat → Nat → Nat) (A : Nat → Option Nat) : Nat → Nat → List Nat
  | 0, _ => []
  | m + 1, k => [119, 111, 114, 107, 32] ++ (digN (W k 0) ++ ([32, 102, 111, 114, 32] ++ (digN (W k 1) ++ ([32, 119, 111, 114, 116, 104, 32] ++ (digN (W k 2) ++ ([32, 100, 117, 115, 116, 32] ++ (digN (W k 3) ++ ([32, 119, 97, 120, 32] ++ (digN (W k 4) ++ (match A k with
    | none => [59] ++ wTx W A m (k + 1)
    | some x => [32, 97, 102, 116, 101, 114, 32] ++ (digN x ++ ([59] ++ wTx W A m (k + 1)))))))))))))
theorem wTk_ne (W : Nat → Nat → Nat) (A : Nat → Option Nat) : ∀ m k, ∃ y l, wTk W A m k = y :: l
  | 0, _ => ⟨_, _, rfl⟩
  | _ + 1, _ => ⟨_, _, rfl⟩
def wOk (W : Nat → Nat → Nat) (A : Nat → Option Nat) (n k : Nat) : Prop := W k 0 < n ∧ 1 ≤ W k 1 ∧ W k 1 ≤ 24 ∧ W k 2 ≤ 99 ∧ W k 3 ≤ 9 ∧ W k 4 ≤ 9 ∧ ∀ x, A k = some x → x < k ∧ W x 0 = W k 0
theorem w_stream {t n : Nat} {b : Nat → Nat} {W : Nat → Nat → Nat} {A : Nat → Option Nat} (hn : n ≤ 10) : ∀ m k i, k + m ≤ 50 → (∀ j, k ≤ j → j < k + m → wOk W A n j) → restAt b t i (wTx W A m k) → stream 2 b t (wTk W A m k) i
  | 0, _, i, _, _, h => st_end h
  | m + 1, k, i, hk, hw, h => by
    unfold wTx at h
    unfold wTk
    obtain ⟨h0, h1, h1', h2, h3, h4, hA⟩ := hw k (Nat.le_refl _) (by omega)
    refine st_word (sp := 0) (w := [119, 111, 114, 107]) h (by decide) (by decide) rfl (by decide) (by decide) (fun e h => ?_)
    refine st_num (sp := 1) h (by omega) rfl (fun e h => ?_)
    refine st_word (sp := 1) (w := [102, 111, 114]) h (by decide) (by decide) rfl (by decide) (by decide) (fun e h => ?_)
    refine st_num (sp := 1) h (by omega) rfl (fun e h => ?_)
    refine st_word (sp := 1) (w := [119, 111, 114, 116, 104]) h (by decide) (by decide) rfl (by decide) (by decide) (fun e h => ?_)
    refine st_num (sp := 1) h (by omega) rfl (fun e h => ?_)
    refine st_word (sp := 1) (w := [100, 117, 115, 116]) h (by decide) (by decide) rfl (by decide) (by decide) (fun e h => ?_)
    refine st_num (sp := 1) h (by omega) rfl (fun e h => ?_)
    refine st_word (sp := 1) (w := [119, 97, 120]) h (by decide) (by decide) rfl (by decide) (by decide) (fun e h => ?_)
    cases hAk : A k with
    | none =>
      rw [hAk] at h
      refine st_num (sp := 1) h (by omega) rfl (fun e h => ?_)
      refine st_sign (sp := 0) (x := 59) h (by decide) (by decide) (by decide) (fun e h => ?_)
      exact w_stream hn m (k + 1) e (by omega) (fun j q1 q2 => hw j (by omega) (by omega)) h
    | some x =>
      rw [hAk] at h
      have hx := (hA x hAk).1
      refine st_num (sp := 1) h (by omega) rfl (fun e h => ?_)
      refine st_word (sp := 1) (w := [97, 102, 116, 101, 114]) h (by decide) (by decide) rfl (by decide) (by decide) (fun e h => ?_)
      refine st_num (sp := 1) h (by omega) rfl (fun e h => ?_)
      refine st_sign (sp := 0) (x := 59) h (by decide) (by decide) (by decide) (fun e h => ?_)
      exact w_stream hn m (k + 1) e (by omega) (fun j q1 q2 => hw j (by omega) (by omega)) h
theorem work_run {t n k : Nat} {b : Nat → Nat} {B : ZI} {W : Nat → Nat → Nat} {A : Nat → Option Nat} {z : Int32 × Nat} {l lq : List (Int32 × Nat)} (hb : tapB b t) (hn : n ≤ 10) (h48 : B 149 48 = znn n) (hk : k < 12) (hok : wOk W A n k) (h17 : B 148 17 = znn k) (hd : ∀ i, i < k → B 156 (6 * i) = znn (W i 0)) (hP : pT 2 b t B ((8, 0) :: (2, W k 0) :: (9, 0) :: (2, W k 1) :: (10, 0) :: (2, W k 2) :: (11, 0) :: (2, W k 3) :: (12, 0) :: (2, W k 4) :: lq)) (hlq : lq = match A k with
    | none => (159, 0) :: z :: l
    | some x => (13, 0) :: (2, x) :: (159, 0) :: z :: l) : ∃ B', f184_aWork B = some (1, B') ∧ pT 2 b t B' (z :: l) ∧ B' 148 17 = znn (k + 1) ∧ (∀ o, o ≠ 148 → o ≠ 156 → B' o = B o) ∧ (∀ f, f < 5 → B' 156 (6 * k + f) = znn (W k f)) ∧ B' 156 (6 * k + 5) = vOf A k ∧ (∀ j, ¬ (6 * k ≤ j ∧ j < 6 * k + 6) → B' 156 j = B 156 j) ∧ ∀ j, j ≠ 17 → j ≠ 20 → j ≠ 21 → j ≠ 22 → j ≠ 23 → j ≠ 29 → B' 148 j = B 148 j := by
  obtain ⟨h0, h1, h1', h2, h3, h4, hA⟩ := hok
  have hm : znn n - 1 = znn (n - 1) := by rw [zl1, zn_sub (by omega)]
  obtain ⟨y, lq', hly⟩ : ∃ y lq', lq = y :: lq' := by
    rw [hlq]
    cases A k with
    | none => exact ⟨_, _, rfl⟩
    | some x => exact ⟨_, _, rfl⟩
  rw [hly] at hP
  obtain ⟨B1, a1, a2, a3, a4, a5⟩ := told_r (f := 0) (lo := 0) (hi := n - 1) hb (by decide) h17 hk (by decide) hP (by omega) (by omega) (by omega)
  have k1 : B1 148 17 = znn k := by rw [a5 17 (by decide) (by decide) (by decide) (by decide) (by decide)]; exact h17
  obtain ⟨B2, b1, b2, b3, b4, b5⟩ := told_r (f := 1) (lo := 1) (hi := 24) hb (by decide) k1 hk (by decide) a2 h1 h1' (by omega)
  have k2 : B2 148 17 = znn k := by rw [b5 17 (by decide) (by decide) (by decide) (by decide) (by decide)]; exact k1
  obtain ⟨B3, c1, c2, c3, c4, c5⟩ := told_r (f := 2) (lo := 0) (hi := 99) hb (by decide) k2 hk (by decide) b2 (by omega) h2 (by omega)
  have k3 : B3 148 17 = znn k := by rw [c5 17 (by decide) (by decide) (by decide) (by decide) (by decide)]; exact k2
  obtain ⟨B4, d1, d2, d3, d4, d5⟩ := told_r (f := 3) (lo := 0) (hi := 9) hb (by decide) k3 hk (by decide) c2 (by omega) h3 (by omega)
  have k4 : B4 148 17 = znn k := by rw [d5 17 (by decide) (by decide) (by decide) (by decide) (by decide)]; exact k3
  obtain ⟨B5, e1, e2, e3, e4, e5⟩ := told_r (f := 4) (lo := 0) (hi := 9) hb (by decide) k4 hk (by decide) d2 (by omega) h4 (by omega)
  have k5 : B5 148 17 = znn k := by rw [e5 17 (by decide) (by decide) (by decide) (by decide) (by decide)]; exact k4
  have row : ∀ f, f < 5 → B5 156 (6 * k + f) = znn (W k f) := fun f hf => by
    rw [e4, d4, c4, b4, a4]
    rcases (show f = 0 ∨ f = 1 ∨ f = 2 ∨ f = 3 ∨ f = 4 by omega) with rfl | rfl | rfl | rfl | rfl
    · rw [if_neg (by omega), if_neg (by omega), if_neg (by omega), if_neg (by omega), if_pos rfl]
    · rw [if_neg (by omega), if_neg (by omega), if_neg (by omega), if_pos rfl]
    · rw [if_neg (by omega), if_neg (by omega), if_pos rfl]
    · rw [if_neg (by omega), if_pos rfl]
    · rw [if_pos rfl]
  have oth : ∀ j, ¬ (6 * k ≤ j ∧ j < 6 * k + 6) → B5 156 j = B 156 j := fun j hj => by
    rw [e4, d4, c4, b4, a4, if_neg (by omega), if_neg (by omega), if_neg (by omega), if_neg (by omega), if_neg (by omega)]
  have fr : ∀ o, o ≠ 148 → o ≠ 156 → B5 o = B o := fun o q1 q2 => by rw [e3 o q1 q2, d3 o q1 q2, c3 o q1 q2, b3 o q1 q2, a3 o q1 q2]
  have fr148 : ∀ j, j ≠ 20 → j ≠ 21 → j ≠ 22 → j ≠ 23 → j ≠ 29 → B5 148 j = B 148 j := fun j q1 q2 q3 q4 q5 => by rw [e5 j q1 q2 q3 q4 q5, d5 j q1 q2 q3 q4 q5, c5 j q1 q2 q3 q4 q5, b5 j q1 q2 q3 q4 q5, a5 j q1 q2 q3 q4 q5]
  rw [← hly] at e2
  obtain ⟨B6, m1, m2, m3, m4, m5⟩ : ∃ B6, f186_anAfter B5 = some (1, B6) ∧ pT 2 b t B6 ((159, 0) :: z :: l) ∧ (∀ o, o ≠ 148 → o ≠ 156 → B6 o = B5 o) ∧ (∀ j, B6 156 j = if j = 6 * k + 5 then vOf A k else B5 156 j) ∧ ∀ j, j ≠ 20 → j ≠ 21 → j ≠ 22 → j ≠ 23 → j ≠ 29 → B6 148 j = B5 148 j := by
    unfold vOf
    cases hAk : A k with
    | none =>
      rw [hAk] at hlq
      dsimp only at hlq
      rw [hlq] at e2
      refine ⟨_, after_n k5 hk (by rw [show B5 148 21 = 159 from e2.2.2.1]; decide), pT_of e2 (zs_df (by decide)) (fun j _ => by rw [zs_df (by decide)]), fun o q1 q2 => zs_df q2, fun j => by rw [zs_sm], fun j _ _ _ _ _ => by rw [zs_df (by decide)]⟩
    | some x =>
      rw [hAk] at hlq
      dsimp only at hlq
      rw [hlq] at e2
      obtain ⟨hx1, hx2⟩ := hA x hAk
      exact after_s hb (by decide) k5 hk hx1 (by rw [oth (6 * x) (by omega), hd x hx1, hx2, ← row 0 (by decide), Nat.add_zero]) e2
  have k6 : B6 148 17 = znn k := by rw [m5 17 (by decide) (by decide) (by decide) (by decide) (by decide)]; exact k5
  have hP7 : pT 2 b t (zs B6 148 17 (znn (k + 1))) ((159, 0) :: z :: l) := pT_of m2 (zs_df (by decide)) (fun j hj => by rw [zs_sm, if_neg (by omega)])
  obtain ⟨B8, n1, n2, n3, n4⟩ := ps_next hb (by decide) hP7
  have e156 : B8 156 = B6 156 := by rw [n3 156 (by decide), zs_df (by decide)]
  refine ⟨B8, ?_, n2, by rw [n4 17 (by decide) (by decide) (by decide) (by decide), zs_sm, if_pos rfl], fun o q1 q2 => by rw [n3 o q1, zs_df q1, m3 o q1 q2, fr o q1 q2], fun f hf => by rw [e156, m4, if_neg (by omega), row f hf], by rw [e156, m4, if_pos rfl], fun j hj => by rw [e156, m4, if_neg (by omega), oth j hj], fun j q0 q1 q2 q3 q4 q5 => by rw [n4 j q1 q2 q3 q4, zs_sm, if_neg q0, m5 j q1 q2 q3 q4 q5, fr148 j q1 q2 q3 q4 q5]⟩
  unfold f184_aWork
  rw [show B 148 21 = 8 from hP.2.2.1, if_pos rfl, h17, if_neg (show ¬ znn k = 12 by rw [show (12 : Int32) = znn 12 from rfl, zn_eq (by omega) (by decide)]; omega), h48, hm, show f185_told 0 8 0 (znn (n - 1)) B = some (1, B1) from a1]
  simp only [Option.bind_some]
  rw [if_neg (by decide), show f185_told 1 9 1 24 B1 = some (1, B2) from b1]
  simp only [Option.bind_some]
  rw [if_neg (by decide), show f185_told 2 10 0 99 B2 = some (1, B3) from c1]
  simp only [Option.bind_some]
  rw [if_neg (by decide), show f185_told 3 11 0 9 B3 = some (1, B4) from d1]
  simp only [Option.bind_some]
  rw [if_neg (by decide), show f185_told 4 12 0 9 B4 = some (1, B5) from e1]
  simp only [Option.bind_some]
  rw [if_neg (by decide), m1]
  simp only [Option.bind_some, zlet]
  rw [if_neg (by decide), k6, zadd1]
  unfold f179_need
  rw [if_pos (show (zs B6 148 17 (znn (k + 1))) 148 21 = 159 from hP7.2.2.1), n1]
  rfl
theorem works_loop {t n : Nat} {b : Nat → Nat} {W : Nat → Nat → Nat} {A : Nat → Option Nat} (hb : tapB b t) (hn : n ≤ 10) : ∀ m k fu (B : ZI), k + m ≤ 12 → (∀ j, j < k + m → wOk W A n j) → m < fu → B 149 48 = znn n → B 148 17 = znn k → (∀ i, i < k → (∀ f, f < 5 → B 156 (6 * i + f) = znn (W i f)) ∧ B 156 (6 * i + 5) = vOf A i) → pT 2 b t B (wTk W A m k) → ∃ B', f183_l7 fu 1 B = some (1, B') ∧ B' 148 17 = znn (k + m) ∧ (∀ o, o ≠ 148 → o ≠ 156 → B' o = B o) ∧ (∀ i, i < k + m → (∀ f, f < 5 → B' 156 (6 * i + f) = znn (W i f)) ∧ B' 156 (6 * i + 5) = vOf A i) ∧ ∀ j, j ≠ 17 → j ≠ 20 → j ≠ 21 → j ≠ 22 → j ≠ 23 → j ≠ 29 → B' 148 j = B 148 j := by
  intro m
  induction m with
  | zero =>
    intro k fu B _ _ hf _ h17 hrow hP
    obtain ⟨fu, rfl⟩ : ∃ k, fu = k + 1 := ⟨fu - 1, by omega⟩
    refine ⟨B, ?_, h17, fun _ _ _ => rfl, hrow, fun _ _ _ _ _ _ _ => rfl⟩
    rw [f183_l7, if_neg (by decide), if_pos (show B 148 21 = 0 from hP.2.2.1)]
  | succ m ih =>
    intro k fu B hkm hok hf h48 h17 hrow hP
    obtain ⟨fu, rfl⟩ : ∃ k, fu = k + 1 := ⟨fu - 1, by omega⟩
    obtain ⟨z, l, hz⟩ := wTk_ne W A m (k + 1)
    unfold wTk at hP
    obtain ⟨B1, a1, a2, a3, a4, a5, a6, a7, a8⟩ := work_run (z := z) (l := l) hb hn h48 (by omega) (hok k (by omega)) h17 (fun i hi => (hrow i hi).1 0 (by decide)) hP (by rw [hz])
    rw [← hz] at a2
    obtain ⟨B', e1, e2, e3, e4, e5⟩ := ih (k + 1) fu B1 (by omega) (fun j hj => hok j (by omega)) (by omega) (by rw [a4 149 (by decide) (by decide)]; exact h48) a3 (fun i hi => by
      by_cases hik : i = k
      · subst hik; exact ⟨a5, a6⟩
      · obtain ⟨g1, g2⟩ := hrow i (by omega)
        exact ⟨fun f hf => by rw [a7 _ (by omega)]; exact g1 f hf, by rw [a7 _ (by omega)]; exact g2⟩) a2
    refine ⟨B', ?_, by rw [e2]; congr 1; omega, fun o q1 q2 => (e3 o q1 q2).trans (a4 o q1 q2), fun i hi => e4 i (by omega), fun j q1 q2 q3 q4 q5 q6 => (e5 j q1 q2 q3 q4 q5 q6).trans (a8 j q1 q2 q3 q4 q5 q6)⟩
    rw [f183_l7, if_neg (by decide), if_neg (show ¬ B 148 21 = 0 by rw [show B 148 21 = 8 from hP.2.2.1]; decide), a1]
    exact e1
theorem text_works {B : ZI} {b : Nat → Nat} {t n m : Nat} {W : Nat → Nat → Nat} {A : Nat → Option Nat} (hb : tapB b t) (hB : onB B b t) (hn : n ≤ 10) (hm : m ≤ 12) (h48 : B 149 48 = znn n) (hok : ∀ j, j < m → wOk W A n j) (hr : restAt b t 0 (wTx W A m 0)) : ∃ B', f156_text 2 B = some (znn m, B') ∧ (∀ o, o ≠ 148 → o ≠ 149 → o ≠ 156 → B' o = B o) ∧ (∀ i, i < m → (∀ f, f < 5 → B' 149 (90 + (6 * i + f)) = znn (W i f)) ∧ B' 149 (90 + (6 * i + 5)) = vOf A i) ∧ B' 149 52 = znn m ∧ B' 149 6 = 0 ∧ (∀ j, j ≠ 52 → j ≠ 6 → ¬ (90 ≤ j ∧ j < 162) → B' 149 j = B 149 j) ∧ B' 148 19 = 0 ∧ B' 148 4 = 0 := by
  have hst := w_stream (n := n) hn m 0 0 (by omega) (fun j _ q => hok j (by omega)) hr
  obtain ⟨y, l, hyl⟩ := wTk_ne W A m 0
  obtain ⟨B7, n1, n2, n3, n4⟩ := text_gen (by decide) hb hB (by rw [hyl]; exact List.cons_ne_nil _ _) hst
  have hP2 : pT 2 b t (zs B7 148 17 0) (wTk W A m 0) := pT_of n1 (zs_df (by decide)) (fun j hj => by rw [zs_sm, if_neg (by omega)])
  have e149 : (zs B7 148 17 0) 149 = B 149 := by rw [zs_df (by decide), n2 149 (by decide)]
  obtain ⟨B3, v1, v2, v3, v4, v5⟩ := works_loop hb hn m 0 zfu (zs B7 148 17 0) (by omega) (fun j hj => hok j (by omega)) (by rw [zfu_eq]; omega) (by rw [e149]; exact h48) (by rw [zs_sm, if_pos rfl]; rfl) (fun i hi => by omega) hP2
  obtain ⟨B', p1, p2, p3, p4, p5, p6, p7, p8⟩ := puts_works (M := zs B3 148 19 0) (k := m) (by rw [zs_sm, if_neg (by decide), v2, Nat.zero_add]) hm
  refine ⟨B', n4 B3 _ B' ?_ ?_, fun o q1 q2 q3 => ?_, fun i hi => ?_, p5, p6, fun j q1 q2 q3 => ?_, ?_, p4⟩
  · show f167_reads 2 B7 = _
    unfold f167_reads
    rw [if_neg (by decide), if_neg (by decide), if_pos rfl]
    unfold f183_readsWorks
    simp only [zlet]
    rw [v1]
    rfl
  · show f192_putsText 2 _ = _
    unfold f192_putsText
    rw [if_neg (by decide), if_neg (by decide), if_pos rfl, p1]
    rfl
  · rw [p2 o q2 q1, zs_df q1, v3 o q1 q3, zs_df q1, n2 o q1]
  · obtain ⟨g1, g2⟩ := v4 i (by omega)
    exact ⟨fun f hf => by rw [p7 _ (by omega), zs_df (by decide)]; exact g1 f hf, by rw [p7 _ (by omega), zs_df (by decide)]; exact g2⟩
  · rw [p8 j q1 q2 q3, zs_df (by decide), v3 149 (by decide) (by decide), e149]
  · rw [p3 19 (by decide), zs_sm, if_pos rfl]
