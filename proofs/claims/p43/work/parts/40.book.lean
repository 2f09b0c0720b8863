-- ===== THE BOOK's lines, in step; two memories: the class's (A) and the reference's (B) =====
def bkIs (A : ZI) (w : Nat → Int32) : Prop := bookIs A 7 w ∧ A 2 10 = w 5 ∧ A 2 5 = w 0 ∧ ∃ l, l ≤ 150 ∧ w 5 = znn l
def rowB (w w' : Nat → Int32) : Prop := ∀ j, j ≠ 5 → ¬ (578 ≤ j ∧ j < 1178) → w' j = w j
theorem rowB_refl (w : Nat → Int32) : rowB w w := fun _ _ _ => rfl
theorem rowB_trans {w w' w'' : Nat → Int32} (h1 : rowB w w') (h2 : rowB w' w'') : rowB w w'' := fun j a b => (h2 j a b).trans (h1 j a b)
/-- what writing a line leaves as it was -/
def bkFr (A A' : ZI) : Prop := (∀ o, o ≠ 2 → o ≠ 8 → o ≠ 9 → o ≠ 10 → o ≠ 11 → A' o = A o) ∧ ∀ j, j ≠ 10 → A' 2 j = A 2 j
theorem bkFr_refl (A : ZI) : bkFr A A := ⟨fun _ _ _ _ _ _ => rfl, fun _ _ => rfl⟩
theorem bkFr_trans {A B C : ZI} (h1 : bkFr A B) (h2 : bkFr B C) : bkFr A C := ⟨fun o a b c d e => (h2.1 o a b c d e).trans (h1.1 o a b c d e), fun j a => (h2.2 j a).trans (h1.2 j a)⟩
theorem note_eq {A B : ZI} {w : Nat → Int32} {x y z : Int32} (hw : B 149 = w) (ht : B 148 30 = 1) (hb : bkIs A w) :
    ∃ A' B', f46_write 7 2 x y z A = some A' ∧ f217_notes x y z B = some B' ∧ bkIs A' (B' 149) ∧ rowB w (B' 149) ∧ (∀ o, o ≠ 149 → B' o = B o) ∧ bkFr A A' := by
  subst hw
  obtain ⟨hbk, h10, h5, l, hl, hwl⟩ := hb
  have e10 : A 2 10 = znn l := h10.trans hwl
  unfold f46_write f217_notes
  simp only [zlet]
  rw [if_neg (show ¬ B 148 30 = 0 by rw [ht]; decide), hwl, e10, if_neg (zn_nneg (by omega))]
  by_cases hl2 : l = 150
  · subst hl2
    rw [if_neg (by decide), if_pos (show znn 150 = 150 from rfl)]
    exact ⟨A, B, rfl, rfl, ⟨hbk, h10, h5, 150, by omega, hwl⟩, rowB_refl _, fun _ _ => rfl, bkFr_refl A⟩
  · have hz : zin (znn l) 150 = true := (zn_zin (by omega)).mpr (by omega)
    rw [if_pos (show znn l < 150 by rw [zl150, zn_lt (by omega) (by decide)]; omega), if_pos hz, if_pos hz, if_pos hz, if_pos hz, zn_zi (by omega), if_neg (show ¬ znn l = 150 by rw [zl150, zn_eq (by omega) (by decide)]; exact hl2)]
    rw [zl578, zl4, zn_mul, zn_add, show znn (578 + 4 * l) + 1 = znn (579 + 4 * l) by rw [zl1, zn_add]; congr 1; omega, show znn (578 + 4 * l) + 2 = znn (580 + 4 * l) by rw [zl2, zn_add]; congr 1; omega, show znn (578 + 4 * l) + 3 = znn (581 + 4 * l) by rw [zl3, zn_add]; congr 1; omega]
    rw [if_pos ((zn_zin (by omega)).mpr (by omega)), if_pos ((zn_zin (by omega)).mpr (by omega)), if_pos ((zn_zin (by omega)).mpr (by omega)), if_pos ((zn_zin (by omega)).mpr (by omega)), zn_zi (by omega), zn_zi (by omega), zn_zi (by omega), zn_zi (by omega)]
    simp only [zs_ap, Nat.reduceAdd, Nat.reduceEqDiff, ↓reduceIte, e10]
    refine ⟨_, _, rfl, rfl, ⟨?_, ?_, ?_, l + 1, by omega, ?_⟩, ?_, ?_, ?_, ?_⟩
    · intro i hi
      obtain ⟨b1, b2, b3, b4⟩ := hbk i hi
      simp only [Nat.reduceAdd] at b1 b2 b3 b4
      simp only [zs_ap, upd_ap, Nat.reduceAdd, Nat.reduceEqDiff, ↓reduceIte]
      by_cases hil : i = l
      · subst hil
        refine ⟨?_, ?_, ?_, ?_⟩
        · rw [if_pos rfl, if_neg (by omega), if_neg (by omega), if_neg (by omega), if_neg (by omega), if_pos rfl]; exact h5
        · rw [if_pos rfl, if_neg (by omega), if_neg (by omega), if_neg (by omega), if_pos rfl]
        · rw [if_pos rfl, if_neg (by omega), if_neg (by omega), if_pos rfl]
        · rw [if_pos rfl, if_neg (by omega), if_pos rfl]
      · refine ⟨?_, ?_, ?_, ?_⟩
        · rw [if_neg hil, if_neg (by omega), if_neg (by omega), if_neg (by omega), if_neg (by omega), if_neg (by omega)]; exact b1
        · rw [if_neg hil, if_neg (by omega), if_neg (by omega), if_neg (by omega), if_neg (by omega), if_neg (by omega)]; exact b2
        · rw [if_neg hil, if_neg (by omega), if_neg (by omega), if_neg (by omega), if_neg (by omega), if_neg (by omega)]; exact b3
        · rw [if_neg hil, if_neg (by omega), if_neg (by omega), if_neg (by omega), if_neg (by omega), if_neg (by omega)]; exact b4
    · simp only [zs_ap, upd_ap, Nat.reduceAdd, Nat.reduceEqDiff, ↓reduceIte]
      rw [if_neg (by omega), if_neg (by omega), if_neg (by omega), if_neg (by omega), hwl]
    · simp only [zs_ap, upd_ap, Nat.reduceAdd, Nat.reduceEqDiff, ↓reduceIte]
      rw [if_neg (by omega), if_neg (by omega), if_neg (by omega), if_neg (by omega)]
      exact h5
    · simp only [zs_ap, upd_ap, Nat.reduceAdd, Nat.reduceEqDiff, ↓reduceIte]
      rw [if_neg (by omega), if_neg (by omega), if_neg (by omega), if_neg (by omega), hwl, zadd1]
    · intro j h1 h2
      simp only [zs_ap, upd_ap, ↓reduceIte]
      rw [if_neg h1, if_neg (by omega), if_neg (by omega), if_neg (by omega), if_neg (by omega)]
    · intro o ho
      simp only [zs_ap, if_neg ho]
    · intro o h1 h2 h3 h4 h5
      simp only [zs_ap, if_neg h1, if_neg h2, if_neg h3, if_neg h4, if_neg h5]
    · intro j hj
      simp only [zs_ap, upd_ap, Nat.reduceEqDiff, ↓reduceIte, if_neg hj]
theorem works_note {A B : ZI} {w : Nat → Int32} {n k s : Nat} (hw : B 149 = w) (ht : B 148 30 = 1) (hb : bkIs A w) (hi : wrkIs A 21 w k) (hk : wrkOk w n k) (hs : s < 4096) :
    ∃ A' B', f45_l28 1 2 (znn s) zfu 0 A = some A' ∧ f218_l69 (znn s) zfu 0 B = some B' ∧ bkIs A' (B' 149) ∧ rowB w (B' 149) ∧ (∀ o, o ≠ 149 → B' o = B o) ∧ bkFr A A' := by
  have hk12 := hk.1
  have h52 := hk.2.1
  obtain ⟨A', B', h1, h2, h3⟩ := zpair (fun fu (a : ZI) c => f45_l28 1 2 (znn s) fu c a) (fun fu (a : ZI) c => f218_l69 (znn s) fu c a) k (fun i a b => bkIs a (b 149) ∧ rowB w (b 149) ∧ (∀ o, o ≠ 149 → b o = B o) ∧ bkFr A a) (fun a b => bkIs a (b 149) ∧ rowB w (b 149) ∧ (∀ o, o ≠ 149 → b o = B o) ∧ bkFr A a) (fun fu i a b hik hab => by
      obtain ⟨g1, g2, g3, g4⟩ := hab
      left
      (try dsimp only)
      have h21 : a 21 = A 21 := g4.1 21 (by decide) (by decide) (by decide) (by decide) (by decide)
      have h23 : a 23 = A 23 := g4.1 23 (by decide) (by decide) (by decide) (by decide) (by decide)
      have c52 : b 149 52 = znn k := (g2 52 (by decide) (by omega)).trans h52
      have c91 : b 149 (90 + 1 + 6 * i) = w (91 + 6 * i) := g2 _ (by omega) (by omega)
      have a23 : A 23 i = w (91 + 6 * i) := wrk_cell (t := 21) (f := 1) hi (by decide) hik
      rw [f45_l28, f218_l69, show (1 : Nat) + 20 = 21 from rfl, show (1 : Nat) + 22 = 23 from rfl, show (1 : Nat) + 6 = 7 from rfl, h21, hi.1, h52, c52, if_pos ((zn_lt (by omega) (by omega)).mpr hik), if_pos ((zn_lt (by omega) (by omega)).mpr hik), isIn_zn hs (by omega), zbit hs (by omega), zadd1, h23, zn_zi (by omega), a23, show f222_ofWork (znn i) 1 b = some (w (91 + 6 * i)) from (ofWork_eq (f := 1) (by omega) (by decide)).trans (by rw [c91])]
      simp only [Option.bind_some]
      by_cases hsb : s.testBit i = true
      · rw [if_pos hsb, if_neg (by decide), if_pos ((zn_zin (by omega)).mpr (by omega)), if_pos rfl]
        obtain ⟨a', b', e1, e2, e3, e4, e5, e6⟩ := note_eq (x := 3) (y := znn i) (z := w (91 + 6 * i)) (B := b) rfl (by rw [g3 148 (by decide)]; exact ht) g1
        rw [e1, e2]
        exact ⟨a', b', ⟨e3, rowB_trans g2 e4, fun o ho => (e5 o ho).trans (g3 o ho), bkFr_trans g4 e6⟩, rfl, rfl⟩
      · rw [if_neg hsb, if_pos rfl, if_neg (by decide)]
        exact ⟨a, b, ⟨g1, g2, g3, g4⟩, rfl, rfl⟩) (fun fu a b hab => by
      obtain ⟨g1, g2, g3, g4⟩ := hab
      refine ⟨a, b, ⟨g1, g2, g3, g4⟩, ?_, ?_⟩
      · (try dsimp only)
        rw [f45_l28, show (1 : Nat) + 20 = 21 from rfl, g4.1 21 (by decide) (by decide) (by decide) (by decide) (by decide), hi.1, h52, if_neg (by rw [zn_lt (by omega) (by omega)]; omega)]
      · (try dsimp only)
        rw [f218_l69, g2 52 (by decide) (by omega), h52, if_neg (by rw [zn_lt (by omega) (by omega)]; omega)]) zfu 0 A B (by omega) (by rw [zfu_eq]; omega) ⟨by rw [hw]; exact hb, by rw [hw]; exact rowB_refl w, fun _ _ => rfl, bkFr_refl A⟩
  exact ⟨A', B', h1, h2, h3⟩
/-- what the YEAR does to those who grow older: the class -/
theorem grow_cls {A : ZI} {a n : Nat} {whom : Int32} (ha : a = 2 ∨ a = 114) (hn : n ≤ 10) :
    ∃ A', f47_growOlder a (znn n) whom A = some A' ∧ (∀ o, o ≠ a → o ≠ a + 1 → o ≠ a + 2 → o ≠ a + 3 → A' o = A o) ∧ (∀ j, A' a j = if j = 5 then A a 5 + 1 else A a j) ∧ ∀ p, p < n → A' (a + 1) p = zmin 99 (A (a + 1) p + 1) ∧ A' (a + 2) p = (if znn p = whom then A (a + 2) p + 1 else A (a + 2) p) ∧ A' (a + 3) p = (if znn p = whom then 0 else A (a + 3) p + 1) := by
  obtain ⟨m, h1, h2, h3, h4⟩ := zloop (fun fu (m : ZI) c => f47_l2 a (znn n) whom fu c m) n (fun i m => (∀ o, o ≠ a + 1 → o ≠ a + 2 → o ≠ a + 3 → m o = A o) ∧ (∀ p, p < i → m (a + 1) p = zmin 99 (A (a + 1) p + 1) ∧ m (a + 2) p = (if znn p = whom then A (a + 2) p + 1 else A (a + 2) p) ∧ m (a + 3) p = (if znn p = whom then 0 else A (a + 3) p + 1)) ∧ ∀ p, i ≤ p → m (a + 1) p = A (a + 1) p ∧ m (a + 2) p = A (a + 2) p ∧ m (a + 3) p = A (a + 3) p)
    (fun m => (∀ o, o ≠ a + 1 → o ≠ a + 2 → o ≠ a + 3 → m o = A o) ∧ (∀ p, p < n → m (a + 1) p = zmin 99 (A (a + 1) p + 1) ∧ m (a + 2) p = (if znn p = whom then A (a + 2) p + 1 else A (a + 2) p) ∧ m (a + 3) p = (if znn p = whom then 0 else A (a + 3) p + 1)) ∧ True) (fun fu i m hi hm => by
      obtain ⟨g1, g2, g3⟩ := hm
      left
      (try dsimp only)
      have hz : zin (znn i) 10 = true := (zn_zin (by omega)).mpr (by omega)
      obtain ⟨q1, q2, q3⟩ := g3 i (Nat.le_refl _)
      rw [f47_l2, if_pos ((zn_lt (by omega) (by omega)).mpr hi), if_pos (show znn i < 10 by rw [zl10, zn_lt (by omega) (by decide)]; omega), zn_zi (by omega), zadd1]
      simp only [zlet, hz, ↓reduceIte]
      by_cases hc : znn i = whom
      · rw [if_pos hc]
        simp only [Option.bind_some]
        refine ⟨_, ⟨?_, ?_, ?_⟩, rfl⟩
        · intro o h1 h2 h3
          simp only [zs_ap, if_neg h1, if_neg h2, if_neg h3]
          exact g1 o h1 h2 h3
        · intro p hp
          simp only [zs_ap, upd_ap, Nat.add_left_cancel_iff, Nat.reduceEqDiff, ↓reduceIte]
          by_cases hpi : p = i
          · subst hpi
            simp only [↓reduceIte, hc, q1, q2]
            exact ⟨trivial, trivial, trivial⟩
          · simp only [if_neg hpi]
            exact g2 p (by omega)
        · intro p hp
          simp only [zs_ap, upd_ap, Nat.add_left_cancel_iff, Nat.reduceEqDiff, ↓reduceIte, if_neg (show ¬ p = i by omega)]
          exact g3 p (by omega)
      · rw [if_neg hc]
        simp only [Option.bind_some]
        refine ⟨_, ⟨?_, ?_, ?_⟩, rfl⟩
        · intro o h1 h2 h3
          simp only [zs_ap, if_neg h1, if_neg h2, if_neg h3]
          exact g1 o h1 h2 h3
        · intro p hp
          simp only [zs_ap, upd_ap, Nat.add_left_cancel_iff, Nat.reduceEqDiff, ↓reduceIte]
          by_cases hpi : p = i
          · subst hpi
            simp only [↓reduceIte, if_neg hc, q1, q2, q3]
            exact ⟨trivial, trivial, trivial⟩
          · simp only [if_neg hpi]
            exact g2 p (by omega)
        · intro p hp
          simp only [zs_ap, upd_ap, Nat.add_left_cancel_iff, Nat.reduceEqDiff, ↓reduceIte, if_neg (show ¬ p = i by omega)]
          exact g3 p (by omega)) (fun fu m hm => by
      obtain ⟨g1, g2, g3⟩ := hm
      refine ⟨m, ⟨g1, g2, trivial⟩, ?_⟩
      (try dsimp only)
      rw [f47_l2, if_neg (by rw [zn_lt (by omega) (by omega)]; omega)]) zfu 0 A (by omega) (by rw [zfu_eq]; omega) ⟨fun _ _ _ _ => rfl, fun p hp => by omega, fun p _ => ⟨rfl, rfl, rfl⟩⟩
  have h1 : f47_l2 a (znn n) whom zfu 0 A = some m := h1
  refine ⟨zs m a 5 (m a 5 + 1), by rw [f47_growOlder, h1]; rfl, ?_, ?_, ?_⟩
  · intro o g1 g2 g3 g4
    rw [zs_ap, if_neg g1]
    exact h2 o g2 g3 g4
  · intro j
    rw [zs_ap, if_pos rfl, upd_ap, h2 a (by omega) (by omega) (by omega)]
  · intro p hp
    have e1 : zs m a 5 (m a 5 + 1) (a + 1) = m (a + 1) := by rw [zs_ap, if_neg (by omega)]
    have e2 : zs m a 5 (m a 5 + 1) (a + 2) = m (a + 2) := by rw [zs_ap, if_neg (by omega)]
    have e3 : zs m a 5 (m a 5 + 1) (a + 3) = m (a + 3) := by rw [zs_ap, if_neg (by omega)]
    rw [e1, e2, e3]
    exact h3 p hp
theorem grow_ref {B : ZI} {w : Nat → Int32} {n : Nat} (hw : B 149 = w) (hn : n ≤ 10) (h48 : w 48 = znn n) :
    ∃ B', f204_l93 zfu 0 B = some B' ∧ (∀ o, o ≠ 149 → B' o = B o) ∧ (∀ p, p < n → B' 149 (37 + p) = w (37 + p) + 1 ∧ B' 149 (17 + p) = zmin 99 (w (17 + p) + 1)) ∧ ∀ j, ¬ (37 ≤ j ∧ j < 37 + n) → ¬ (17 ≤ j ∧ j < 17 + n) → B' 149 j = w j := by
  obtain ⟨m, h1, h2, h3, h4⟩ := zloop (fun fu (m : ZI) c => f204_l93 fu c m) n (fun i m => (∀ o, o ≠ 149 → m o = B o) ∧ (∀ p, p < i → m 149 (37 + p) = w (37 + p) + 1 ∧ m 149 (17 + p) = zmin 99 (w (17 + p) + 1)) ∧ ∀ j, ¬ (37 ≤ j ∧ j < 37 + i) → ¬ (17 ≤ j ∧ j < 17 + i) → m 149 j = w j)
    (fun m => (∀ o, o ≠ 149 → m o = B o) ∧ (∀ p, p < n → m 149 (37 + p) = w (37 + p) + 1 ∧ m 149 (17 + p) = zmin 99 (w (17 + p) + 1)) ∧ ∀ j, ¬ (37 ≤ j ∧ j < 37 + n) → ¬ (17 ≤ j ∧ j < 17 + n) → m 149 j = w j) (fun fu i m hi hm => by
      obtain ⟨g1, g2, g3⟩ := hm
      left
      (try dsimp only)
      have c48 : m 149 48 = znn n := (g3 48 (by omega) (by omega)).trans h48
      rw [f204_l93, c48, if_pos ((zn_lt (by omega) (by omega)).mpr hi), show (37 : Int32) + znn i = znn (37 + i) from zn_add 37 i, show (17 : Int32) + znn i = znn (17 + i) from zn_add 17 i, zadd1]
      have hz1 : zin (znn (37 + i)) 2064 = true := (zn_zin (by omega)).mpr (by omega)
      have hz2 : zin (znn (17 + i)) 2064 = true := (zn_zin (by omega)).mpr (by omega)
      have zz1 : zi (znn (37 + i)) = 37 + i := zn_zi (by omega)
      have zz2 : zi (znn (17 + i)) = 17 + i := zn_zi (by omega)
      simp only [zlet, les_eq, Option.bind_some, hz1, hz2, zz1, zz2, ↓reduceIte]
      refine ⟨_, ⟨?_, ?_, ?_⟩, rfl⟩
      · intro o ho
        simp only [zs_ap, if_neg ho]
        exact g1 o ho
      · intro p hp
        simp only [zs_ap, upd_ap, ↓reduceIte]
        by_cases hpi : p = i
        · subst hpi
          rw [if_neg (by omega), if_pos rfl, if_pos rfl, if_neg (by omega), g3 (37 + p) (by omega) (by omega), g3 (17 + p) (by omega) (by omega)]
          exact ⟨rfl, rfl⟩
        · rw [if_neg (by omega), if_neg (by omega), if_neg (by omega), if_neg (by omega)]
          exact g2 p (by omega)
      · intro j h1 h2
        simp only [zs_ap, upd_ap, ↓reduceIte]
        rw [if_neg (by omega), if_neg (by omega)]
        exact g3 j (by omega) (by omega)) (fun fu m hm => by
      obtain ⟨g1, g2, g3⟩ := hm
      refine ⟨m, ⟨g1, g2, g3⟩, ?_⟩
      (try dsimp only)
      rw [f204_l93, g3 48 (by omega) (by omega), h48, if_neg (by rw [zn_lt (by omega) (by omega)]; omega)]) zfu 0 B (by omega) (by rw [zfu_eq]; omega) ⟨fun _ _ => rfl, fun p hp => by omega, fun j _ _ => by rw [hw]⟩
  exact ⟨m, h1, h2, h3, h4⟩
