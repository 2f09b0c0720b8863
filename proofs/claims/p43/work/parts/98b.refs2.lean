-- ===== ties, sittings, undone calls on the reference =====
def kpt (B B' : ZI) (m m' : Nat) : Prop := m' = (if m = 6 then 6 else m + 1) ∧ B' 148 4 = znn m' ∧ (∀ o, o ≠ 148 → o ≠ 149 → o ≠ 151 → B' o = B o) ∧ (∀ j, j ≠ 4 → B' 148 j = B 148 j) ∧ (∀ x, x < 48 → B' 151 (48 * (m' - 1) + x) = B 149 x) ∧ ∀ j x, j < m' - 1 → x < 48 → B' 151 (48 * j + x) = if m = 6 then B 151 (48 * (j + 1) + x) else B 151 (48 * j + x)
theorem kpt_of {B : ZI} {m : Nat} (hm : m ≤ 6) (h4 : B 148 4 = znn m) : ∃ B' m', f200_keeps B = some B' ∧ kpt B B' m m' ∧ B' 149 = B 149 := by
  obtain ⟨B', m', e1, e2, e3, e4, e5, e6, e7⟩ := keeps_r hm h4
  exact ⟨B', m', e1, ⟨e2, e3, fun o q1 _ q3 => e4 o q1 q3, e5, e6, e7⟩, e4 149 (by decide) (by decide)⟩
theorem kpt_149 {B B' B2 : ZI} {m m' : Nat} (h : kpt B B' m m') (h2 : ∀ o, o ≠ 149 → B2 o = B' o) : kpt B B2 m m' := by
  obtain ⟨e1, e2, e3, e4, e5, e6⟩ := h
  exact ⟨e1, by rw [h2 148 (by decide)]; exact e2, fun o q1 q2 q3 => by rw [h2 o q2]; exact e3 o q1 q2 q3, fun j hj => by rw [h2 148 (by decide)]; exact e4 j hj, fun x hx => by rw [h2 151 (by decide)]; exact e5 x hx, fun j x q1 q2 => by rw [h2 151 (by decide)]; exact e6 j x q1 q2⟩
theorem tie_none {B : ZI} {n a b : Nat} {is : Int32} (hn : n ≤ 10) (h48 : B 149 48 = znn n) (ha : a ≤ n) (hb : b ≤ n) (h : ¬ (a < n ∧ b < n ∧ a ≠ b)) : f199_tie (znn a) (znn b) is B = some (0, B) := by
  unfold f199_tie
  by_cases ha' : a < n
  · rw [per_yes hn h48 ha']
    simp only [Option.bind_some]
    rw [if_neg (by decide)]
    by_cases hb' : b < n
    · have : a = b := Classical.byContradiction fun hh => h ⟨ha', hb', hh⟩
      subst this
      rw [per_yes hn h48 ha']
      simp only [Option.bind_some]
      rw [if_neg (by decide), if_pos trivial]
    · have : b = n := by omega
      subst this
      rw [per_no hn h48]
      rfl
  · have : a = n := by omega
    subst this
    rw [per_no hn h48]
    rfl
theorem tie_r {B : ZI} {n a b sa : Nat} {is : Int32} (hn : n ≤ 10) (h48 : B 149 48 = znn n) (ha : a < n) (hb : b < n) (hab : a ≠ b) (hsa : B 149 (7 + a) = znn sa) (hs : sa < 1024) :
    ((if sa.testBit b = true then (1 : Int32) else 0) = is → f199_tie (znn a) (znn b) is B = some (0, B)) ∧
    ((if sa.testBit b = true then (1 : Int32) else 0) ≠ is → ∀ m, m ≤ 6 → B 148 4 = znn m → ∃ B' m', f199_tie (znn a) (znn b) is B = some (1, B') ∧ kpt B B' m m' ∧ ∀ j, B' 149 j = if j = 7 + a then B 149 (7 + a) ^^^ zshl 1 (znn b) else if j = 7 + b then B 149 (7 + b) ^^^ zshl 1 (znn a) else B 149 j) := by
  have hbit : (if (zshr (B 149 (zi (7 + znn a))) (znn b) &&& 1) = 1 then some (1 : Int32) else some 0) = some (if sa.testBit b = true then 1 else 0) := by
    rw [show (7 : Int32) + znn a = znn (7 + a) from zn_add 7 a, zn_zi (by omega), hsa, zbit (by omega) (by omega)]
    by_cases h : sa.testBit b = true
    · rw [if_pos h, if_pos rfl]
    · rw [if_neg h, if_neg (by decide)]
  have e7a : (7 : Int32) + znn a = znn (7 + a) := zn_add 7 a
  have e7b : (7 : Int32) + znn b = znn (7 + b) := zn_add 7 b
  have hne : ¬ znn a = znn b := by rw [zn_eq (by omega) (by omega)]; exact hab
  have hz : zin (7 + znn a) 2064 = true := by rw [e7a]; exact zin2064 (by omega)
  constructor
  · intro h
    unfold f199_tie
    rw [per_yes hn h48 ha, per_yes hn h48 hb]
    simp only [Option.bind_some]
    rw [if_neg (by decide), if_neg (by decide), if_neg hne, if_pos hz, hbit]
    simp only [Option.bind_some]
    rw [if_pos h]
  · intro h m hm h4
    obtain ⟨B1, m', k1, k2, k3⟩ := kpt_of hm h4
    refine ⟨zs (zs B1 149 (7 + a) (B 149 (7 + a) ^^^ zshl 1 (znn b))) 149 (7 + b) (B 149 (7 + b) ^^^ zshl 1 (znn a)), m', ?_, kpt_149 k2 (fun o ho => by rw [zs_df ho, zs_df ho]), fun j => ?_⟩
    · unfold f199_tie
      rw [per_yes hn h48 ha, per_yes hn h48 hb]
      simp only [Option.bind_some]
      rw [if_neg (by decide), if_neg (by decide), if_neg hne, if_pos hz, hbit]
      simp only [Option.bind_some]
      rw [if_neg h, k1]
      simp only [Option.bind_some, zlet]
      rw [if_pos hz, if_pos hz, e7a, e7b, if_pos (zin2064 (by omega)), if_pos (zin2064 (by omega)), zn_zi (by omega), zn_zi (by omega), k3]
      rw [zs_sm, if_neg (by omega), k3]
    · rw [zs_sm, zs_sm, k3]
      by_cases h1 : j = 7 + b
      · rw [if_pos h1, if_neg (by omega), if_pos h1]
      · rw [if_neg h1]
        by_cases h2 : j = 7 + a
        · rw [if_pos h2, if_pos h2]
        · rw [if_neg h2, if_neg h2, if_neg h1]
theorem sit_none {B : ZI} : f201_sit 0 B = some (-1, B) := rfl
theorem sit_r {B : ZI} {u m : Nat} (h1 : 1 ≤ u) (h2 : u ≤ 24) (hm : m ≤ 6) (h4 : B 148 4 = znn m) : ∃ B' m', f201_sit (znn u) B = some (zmin 24 (B 149 1 + znn u), B') ∧ kpt B B' m m' ∧ ∀ j, B' 149 j = if j = 1 then zmin 24 (B 149 1 + znn u) else B 149 j := by
  obtain ⟨B1, m', k1, k2, k3⟩ := kpt_of hm h4
  have hl : f202_lesser 24 (B 149 1 + znn u) = some (zmin 24 (B 149 1 + znn u)) := by
    unfold f202_lesser zmin
    by_cases h : 24 < B 149 1 + znn u
    · rw [if_pos h, if_neg (by
        intro hh
        exact Int32.lt_irrefl (Int32.lt_trans h hh))]
    · rw [if_neg h]
      by_cases hh : B 149 1 + znn u < 24
      · rw [if_pos hh]
      · rw [if_neg hh]
        exact congrArg some (Int32.le_antisymm (Int32.not_lt.mp h) (Int32.not_lt.mp hh))
  refine ⟨zs B1 149 1 (zmin 24 (B 149 1 + znn u)), m', ?_, kpt_149 k2 (fun o ho => by rw [zs_df ho]), fun j => by rw [zs_sm, k3]⟩
  unfold f201_sit
  rw [show f149_isIn (znn u) 1 24 = some 1 from in_yes (lo := 1) (hi := 24) h1 h2 (by decide)]
  simp only [Option.bind_some]
  rw [if_neg (by decide), k1]
  simp only [Option.bind_some, zlet]
  rw [k3, hl]
  simp only [Option.bind_some]
  rw [zs_sm, if_pos rfl]
theorem undo_none {B : ZI} (h4 : B 148 4 = 0) : f198_undo B = some (0, B) := by
  unfold f198_undo
  rw [if_pos h4]
theorem undo_r {B : ZI} {m : Nat} (hm : m < 6) (h4 : B 148 4 = znn (m + 1)) : ∃ B', f198_undo B = some (1, B') ∧ (∀ o, o ≠ 148 → o ≠ 149 → B' o = B o) ∧ B' 148 4 = znn m ∧ (∀ j, j ≠ 4 → B' 148 j = B 148 j) ∧ ∀ x, B' 149 x = if x < 48 then B 151 (48 * m + x) else B 149 x := by
  obtain ⟨B1, l1, l2, l3, l4⟩ := zloop (fun fu (M : ZI) x => f198_l21 fu x M) 48 (fun i M => (∀ o, o ≠ 149 → M o = (zs B 148 4 (znn m)) o) ∧ (∀ x, x < i → M 149 x = B 151 (48 * m + x)) ∧ ∀ x, i ≤ x → M 149 x = B 149 x) (fun M => (∀ o, o ≠ 149 → M o = (zs B 148 4 (znn m)) o) ∧ (∀ x, x < 48 → M 149 x = B 151 (48 * m + x)) ∧ ∀ x, 48 ≤ x → M 149 x = B 149 x) (fun fu i M hi hM => by
    obtain ⟨g1, g2, g3⟩ := hM
    left
    have e4 : M 148 4 = znn m := by rw [g1 148 (by decide), zs_sm, if_pos rfl]
    have e48 : (48 : Int32) * znn m + znn i = znn (48 * m + i) := by rw [show (48 : Int32) = znn 48 from rfl, zn_mul, zn_add]
    refine ⟨zs M 149 i (B 151 (48 * m + i)), ⟨fun o ho => by rw [zs_df ho]; exact g1 o ho, fun x hx => ?_, fun x hx => ?_⟩, ?_⟩
    · rw [zs_sm]
      by_cases hxi : x = i
      · rw [if_pos hxi, hxi]
      · rw [if_neg hxi]; exact g2 x (by omega)
    · rw [zs_sm, if_neg (by omega)]; exact g3 x (by omega)
    · rw [f198_l21, if_pos (show znn i < 48 by rw [show (48 : Int32) = znn 48 from rfl, zn_lt (by omega) (by decide)]; exact hi), e4, e48, if_pos ((zn_zin (by omega)).mpr (by omega)), if_pos (zin2064 (by omega)), zlet_e, zn_zi (by omega), zn_zi (by omega), g1 151 (by decide), zs_df (by decide), zadd1]) (fun fu M hM => ⟨M, hM, by
    rw [f198_l21, if_neg (by decide)]⟩) zfu 0 (zs B 148 4 (znn m)) (by omega) (by rw [zfu_eq]; omega) ⟨fun _ _ => rfl, fun x hx => by omega, fun x _ => by rw [zs_df (by decide)]⟩
  refine ⟨B1, ?_, fun o q1 q2 => by rw [l2 o q2, zs_df q1], by rw [l2 148 (by decide), zs_sm, if_pos rfl], fun j hj => by rw [l2 148 (by decide), zs_sm, if_neg hj], fun x => ?_⟩
  · unfold f198_undo
    rw [h4, if_neg (show ¬ znn (m + 1) = 0 by rw [zl0, zn_eq (by omega) (by decide)]; omega)]
    simp only [zlet]
    rw [sub_m1, show f198_l21 zfu 0 (zs B 148 4 (znn m)) = some B1 from l1]
    rfl
  · by_cases hx : x < 48
    · rw [if_pos hx]; exact l3 x hx
    · rw [if_neg hx]; exact l4 x (by omega)
