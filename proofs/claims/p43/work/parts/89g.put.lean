-- ===== text: both begin, both end =====
theorem text_begin {A B : ZI} {b : Nat → Nat} {t n a : Nat} (hb : tapB b t) (hA : onA A b t) (hB : onB B b t) (h11 : A 1 11 = znn n) (h48 : B 149 48 = znn n) (hn : n ≤ 10) (ha : a ≤ 3) :
    ∃ A1 B1 N, f53_begin 119 (A 1 11) A = some A1 ∧ f157_next0 (zs (zs (zs (zs (zs B 148 26 0) 148 28 (-1)) 148 24 0) 148 20 0) 148 14 (znn a)) = some B1 ∧ CX a b t n N A1 B1 ∧ PS a b t N A1 B1 A1 B1 0 ∧ A1 119 1 = 0 ∧ (∀ o, ¬ (119 ≤ o ∧ o ≤ 123) → A1 o = A o) ∧ (∀ o, o ≠ 148 → B1 o = B o) ∧ B1 148 26 = 0 ∧ B1 148 28 = -1 ∧ B1 148 4 = B 148 4 ∧ B1 148 5 = B 148 5 := by
  obtain ⟨A1, N, e1, e2, e3, e4, e5, e6⟩ := begin_cls hb hA (A 1 11)
  have hB' : onB (zs (zs (zs (zs (zs B 148 26 0) 148 28 (-1)) 148 24 0) 148 20 0) 148 14 (znn a)) b t := ⟨by rw [zs_sm, if_neg (by decide), zs_sm, if_neg (by decide), zs_sm, if_neg (by decide), zs_sm, if_neg (by decide), zs_sm, if_neg (by decide)]; exact hB.1, fun j hj => by rw [zs_df (by decide), zs_df (by decide), zs_df (by decide), zs_df (by decide), zs_df (by decide)]; exact hB.2 j hj⟩
  obtain ⟨B1, g1, g2, g3, g4⟩ := next_at (a := a) (i := 0) (q := 0) hb hB' (by rw [zs_sm, if_pos rfl]) ha (by rw [zs_sm, if_neg (by decide), zs_sm, if_pos rfl]; rfl) (Nat.zero_le _) rfl
  have gO : ∀ o, o ≠ 148 → B1 o = B o := fun o ho => by rw [g3 o ho, zs_df ho, zs_df ho, zs_df ho, zs_df ho, zs_df ho]
  have gj : ∀ j, j ≠ 14 → j ≠ 20 → j ≠ 21 → j ≠ 22 → j ≠ 23 → j ≠ 24 → j ≠ 26 → j ≠ 28 → B1 148 j = B 148 j := fun j q1 q2 q3 q4 q5 q6 q7 q8 => by rw [g4 j q2 q3 q4 q5, zs_sm, if_neg q1, zs_sm, if_neg q2, zs_sm, if_neg q6, zs_sm, if_neg q8, zs_sm, if_neg q7]
  refine ⟨A1, B1, N, e1, g1, ⟨⟨hb, ha, hn⟩, e2, ⟨e3.1, e3.2.1, by rw [e3.2.2]; exact h11⟩, ⟨by rw [gj 19 (by decide) (by decide) (by decide) (by decide) (by decide) (by decide) (by decide) (by decide)]; exact hB.1, fun j hj => by rw [gO 158 (by decide)]; exact hB.2 j hj⟩, ?_, by rw [gO 149 (by decide)]; exact h48⟩, ⟨⟨⟨fun _ _ _ => rfl, fun _ _ _ _ _ _ => rfl⟩, ⟨fun _ _ _ => rfl, fun _ _ => rfl⟩, Nat.zero_le _⟩, e4, g2⟩, e5, fun o ho => e6 o (by omega) (by omega) (by omega) (by omega), gO, ?_, ?_, gj 4 (by decide) (by decide) (by decide) (by decide) (by decide) (by decide) (by decide) (by decide), gj 5 (by decide) (by decide) (by decide) (by decide) (by decide) (by decide) (by decide) (by decide)⟩
  · rw [g4 14 (by decide) (by decide) (by decide) (by decide), zs_sm, if_pos rfl]
  · rw [g4 26 (by decide) (by decide) (by decide) (by decide), zs_sm, if_neg (by decide), zs_sm, if_neg (by decide), zs_sm, if_neg (by decide), zs_sm, if_neg (by decide), zs_sm, if_pos rfl]
  · rw [g4 28 (by decide) (by decide) (by decide) (by decide), zs_sm, if_neg (by decide), zs_sm, if_neg (by decide), zs_sm, if_neg (by decide), zs_sm, if_pos rfl]
/-- what the reading leaves as it was, from the call's begin on -/
def KA (A A' : ZI) : Prop := (∀ o, ¬ (119 ≤ o ∧ o ≤ 146) → A' o = A o) ∧ A' 119 1 = 0
def KB (B B' : ZI) : Prop := (∀ o, o ≠ 148 → ¬ (153 ≤ o ∧ o ≤ 157) → B' o = B o) ∧ B' 148 26 = 0 ∧ B' 148 28 = -1 ∧ B' 148 4 = B 148 4 ∧ B' 148 5 = B 148 5
theorem KA_of {A A1 A' : ZI} (h1 : A1 119 1 = 0) (h2 : ∀ o, ¬ (119 ≤ o ∧ o ≤ 123) → A1 o = A o) (h : frA A1 A') : KA A A' := ⟨fun o ho => (h.1 o (by omega) (by omega)).trans (h2 o (by omega)), (h.2 1 (by decide) (by decide) (by decide) (by decide) (by decide)).trans h1⟩
theorem KB_of {B B1 B' : ZI} (h1 : ∀ o, o ≠ 148 → B1 o = B o) (h2 : B1 148 26 = 0) (h3 : B1 148 28 = -1) (h4 : B1 148 4 = B 148 4) (h5 : B1 148 5 = B 148 5) (h : frB B1 B') : KB B B' := ⟨fun o o1 o2 => (h.1 o o1 o2).trans (h1 o o1), (h.2 26 rfl).trans h2, (h.2 28 rfl).trans h3, (h.2 4 rfl).trans h4, (h.2 5 rfl).trans h5⟩
/-- nothing but the tape and the faults has changed -/
theorem Inv2_text {A A' B B' : ZI} (h : Inv2 A B) (gA : ∀ o, ¬ (119 ≤ o ∧ o ≤ 146) → A' o = A o) (gB : ∀ o, o ≠ 148 → ¬ (153 ≤ o ∧ o ≤ 157) → B' o = B o) (g4 : B' 148 4 = B 148 4) (g5 : B' 148 5 = B 148 5) (t1 : A' 119 1 = 0) (t2 : B' 148 19 = 0) (t3 : A' 119 10 = B' 148 26) (t4 : A' 119 11 = B' 148 28) : Inv2 A' B' := by
  obtain ⟨n, k, c, b, ⟨h1, h2, h3, h4, h5⟩, h6, h7, h8⟩ := h
  have e149 : B' 149 = B 149 := gB 149 (by decide) (by omega)
  refine ⟨n, k, c, b, ?_, pastIs_of h6 ⟨by rw [gA 0 (by omega)], by rw [gA 0 (by omega)], fun o q1 q2 => gA o (by omega)⟩ ⟨g4, gB 151 (by decide) (by omega)⟩, imgIs_of h7 ⟨by rw [gA 0 (by omega)], fun o q1 q2 => gA o (by omega)⟩ ⟨g5, gB 150 (by decide) (by omega)⟩, ⟨0, by decide, t1, t2, fun i hi => by omega, t3, t4⟩⟩
  unfold Inv5
  rw [e149]
  exact ⟨fixIs_of h1 (fun o ho => gA o (by omega)), h2, momIs_of h3 (fun o q1 q2 => gA o (by omega)), h4, bookIs_of h5 (fun o q1 q2 => gA o (by omega))⟩
-- the reference puts what it has read in its place
theorem puts_law {M : ZI} {L c : Nat} (h15 : M 148 15 = znn L) (h16 : M 148 16 = znn c) (hL : L ≤ 16) (hc : c ≤ 400) : ∃ M', f193_putsLaw M = some (znn L, M') ∧ (∀ o, o ≠ 149 → M' o = M o) ∧ M' 149 58 = znn L ∧ (∀ i, i < L → M' 149 (1178 + i) = M 153 (4 * i) ∧ M' 149 (1194 + i) = M 153 (4 * i + 1) ∧ M' 149 (1210 + i) = M 153 (4 * i + 2) ∧ M' 149 (1226 + i) = M 153 (4 * i + 3)) ∧ (∀ j, j < 2 * c → M' 149 (1244 + j) = M 154 j) ∧ ∀ j, j ≠ 58 → j < 1178 → M' 149 j = M 149 j := by
  have m15 : (zs M 149 58 (znn L)) 148 15 = znn L := by rw [zs_df (by decide)]; exact h15
  obtain ⟨M8, e1, e2, e3, e4⟩ := zloop (fun fu (b : ZI) x => f193_l13 fu x b) L (fun i b => (∀ o, o ≠ 149 → b o = M o) ∧ (∀ i', i' < i → b 149 (1178 + i') = M 153 (4 * i') ∧ b 149 (1194 + i') = M 153 (4 * i' + 1) ∧ b 149 (1210 + i') = M 153 (4 * i' + 2) ∧ b 149 (1226 + i') = M 153 (4 * i' + 3)) ∧ ∀ j, j < 1178 → b 149 j = (zs M 149 58 (znn L)) 149 j) (fun b => (∀ o, o ≠ 149 → b o = M o) ∧ (∀ i', i' < L → b 149 (1178 + i') = M 153 (4 * i') ∧ b 149 (1194 + i') = M 153 (4 * i' + 1) ∧ b 149 (1210 + i') = M 153 (4 * i' + 2) ∧ b 149 (1226 + i') = M 153 (4 * i' + 3)) ∧ ∀ j, j < 1178 → b 149 j = (zs M 149 58 (znn L)) 149 j) (fun fu i b hi hb => by
    obtain ⟨g1, g2, g3⟩ := hb
    left
    (try dsimp only)
    have x0 : (4 : Int32) * znn i = znn (4 * i) := by rw [zl4, zn_mul]
    have x1 : znn (4 * i) + (1 : Int32) = znn (4 * i + 1) := by rw [zl1, zn_add]
    have x2 : znn (4 * i) + (2 : Int32) = znn (4 * i + 2) := by rw [zl2, zn_add]
    have x3 : znn (4 * i) + (3 : Int32) = znn (4 * i + 3) := by rw [zl3, zn_add]
    have y0 : (1178 : Int32) + znn i = znn (1178 + i) := by rw [zl1178, zn_add]
    have y1 : (1194 : Int32) + znn i = znn (1194 + i) := by rw [zl1194, zn_add]
    have y2 : (1210 : Int32) + znn i = znn (1210 + i) := by rw [zl1210, zn_add]
    have y3 : (1226 : Int32) + znn i = znn (1226 + i) := by rw [zl1226, zn_add]
    have z : ∀ q n, q < n → q < 2147483648 → zin (znn q) n = true := fun q n h1 h2 => (zn_zin h2).mpr h1
    rw [f193_l13, g1 148 (by decide), h15, if_pos ((zn_lt (by omega) (by omega)).mpr hi), x0, x1, x2, x3, y0, y1, y2, y3, if_pos (z (4 * i) 64 (by omega) (by omega)), if_pos (z (1178 + i) 2064 (by omega) (by omega)), zn_zi (by omega), zn_zi (by omega), zlet_e, if_pos (z (4 * i + 1) 64 (by omega) (by omega)), if_pos (z (1194 + i) 2064 (by omega) (by omega)), zn_zi (by omega), zn_zi (by omega), zlet_e, if_pos (z (4 * i + 2) 64 (by omega) (by omega)), if_pos (z (1210 + i) 2064 (by omega) (by omega)), zn_zi (by omega), zn_zi (by omega), zlet_e, if_pos (z (4 * i + 3) 64 (by omega) (by omega)), if_pos (z (1226 + i) 2064 (by omega) (by omega)), zn_zi (by omega), zn_zi (by omega), zlet_e, zadd1]
    refine ⟨_, ⟨fun o ho => ?_, fun i' hi' => ?_, fun j hj => ?_⟩, rfl⟩
    · rw [zs_df ho, zs_df ho, zs_df ho, zs_df ho]; exact g1 o ho
    · simp (disch := omega) only [zs_sm, zs_df, g1 153 (by decide)]
      by_cases hii : i' = i
      · subst hii
        refine ⟨?_, ?_, ?_, ?_⟩
        · rw [if_neg (by omega), if_neg (by omega), if_neg (by omega), if_pos rfl]
        · rw [if_neg (by omega), if_neg (by omega), if_pos rfl]
        · rw [if_neg (by omega), if_pos rfl]
        · rw [if_pos rfl]
      · obtain ⟨k1, k2, k3, k4⟩ := g2 i' (by omega)
        refine ⟨?_, ?_, ?_, ?_⟩
        · rw [if_neg (by omega), if_neg (by omega), if_neg (by omega), if_neg (by omega)]; exact k1
        · rw [if_neg (by omega), if_neg (by omega), if_neg (by omega), if_neg (by omega)]; exact k2
        · rw [if_neg (by omega), if_neg (by omega), if_neg (by omega), if_neg (by omega)]; exact k3
        · rw [if_neg (by omega), if_neg (by omega), if_neg (by omega), if_neg (by omega)]; exact k4
    · rw [zs_sm, if_neg (by omega), zs_sm, if_neg (by omega), zs_sm, if_neg (by omega), zs_sm, if_neg (by omega)]
      exact g3 j hj) (fun fu b hb => by
    refine ⟨b, hb, ?_⟩
    (try dsimp only)
    rw [f193_l13, hb.1 148 (by decide), h15, if_neg (by rw [zn_lt (by omega) (by omega)]; omega)]) zfu 0 (zs M 149 58 (znn L)) (Nat.zero_le _) (by rw [zfu_eq]; omega) ⟨fun o ho => by rw [zs_df ho], fun i hi => by omega, fun _ _ => rfl⟩
  have e1 : f193_l13 zfu 0 (zs M 149 58 (znn L)) = some M8 := e1
  obtain ⟨M13, f1, f2, f3, f4⟩ := zloop (fun fu (b : ZI) x => f193_l107 fu x b) (2 * c) (fun i b => (∀ o, o ≠ 149 → b o = M o) ∧ (∀ j, j < i → b 149 (1244 + j) = M 154 j) ∧ ∀ j, j < 1244 → b 149 j = M8 149 j) (fun b => (∀ o, o ≠ 149 → b o = M o) ∧ (∀ j, j < 2 * c → b 149 (1244 + j) = M 154 j) ∧ ∀ j, j < 1244 → b 149 j = M8 149 j) (fun fu i b hi hb => by
    obtain ⟨g1, g2, g3⟩ := hb
    left
    (try dsimp only)
    rw [f193_l107, g1 148 (by decide), h16, g1 154 (by decide), zl2, zn_mul, if_pos ((zn_lt (by omega) (by omega)).mpr hi), zl1244, zn_add, if_pos ((zn_zin (by omega)).mpr (by omega)), if_pos ((zn_zin (by omega)).mpr (by omega)), zn_zi (by omega), zn_zi (by omega), zlet_e, zadd1]
    refine ⟨_, ⟨fun o ho => ?_, fun j hj => ?_, fun j hj => ?_⟩, rfl⟩
    · rw [zs_df ho]; exact g1 o ho
    · rw [zs_sm]
      by_cases hji : j = i
      · rw [if_pos (by omega), hji]
      · rw [if_neg (by omega)]; exact g2 j (by omega)
    · rw [zs_sm, if_neg (by omega)]; exact g3 j hj) (fun fu b hb => by
    refine ⟨b, hb, ?_⟩
    (try dsimp only)
    rw [f193_l107, hb.1 148 (by decide), h16, zl2, zn_mul, if_neg (by rw [zn_lt (by omega) (by omega)]; omega)]) zfu 0 M8 (Nat.zero_le _) (by rw [zfu_eq]; omega) ⟨e2, fun j hj => by omega, fun _ _ => rfl⟩
  have f1 : f193_l107 zfu 0 M8 = some M13 := f1
  refine ⟨M13, ?_, f2, ?_, fun i hi => ?_, f3, fun j q1 q2 => ?_⟩
  · unfold f193_putsLaw
    rw [h15, zlet_e, e1, Option.bind_some, f1, Option.bind_some, f2 148 (by decide), h15]
  · rw [f4 58 (by decide), e4 58 (by decide), zs_sm, if_pos rfl]
  · rw [f4 _ (by omega), f4 _ (by omega), f4 _ (by omega), f4 _ (by omega)]; exact e3 i hi
  · rw [f4 j (by omega), e4 j q2, zs_sm, if_neg q1]
