-- ===== calls that read alone =====
theorem h10 : ¬ (1 : Int32) = 0 := by decide
/-- a call that leaves memory as it is on both sides -/
def syncP (fC fR : ZI → Option Int32) : Prop := ∀ A B, Inv2 A B → ∃ v, fC A = some v ∧ fR B = some v
theorem idx_eq {x : Int32} {m : Nat} (hm : m ≤ 100000) : (∃ i, i < m ∧ x = znn i ∧ f13_within x 0 (znn m - 1) = some 1 ∧ f149_isIn x 0 (znn m - 1) = some 1) ∨ (f13_within x 0 (znn m - 1) = some 0 ∧ f149_isIn x 0 (znn m - 1) = some 0) := by
  by_cases h0 : m = 0
  · subst h0
    rw [within_eq, isIn_eq, if_pos (by
      have : znn 0 - 1 = -1 := by decide
      rw [this]
      grind)]
    exact Or.inr ⟨rfl, rfl⟩
  · have e : znn m - 1 = znn (m - 1) := zn_sub (j := 1) (by omega)
    rw [e]
    rcases within_ex (x := x) (lo := 0) (hi := m - 1) (by decide) (by omega) with ⟨k, -, h2, h3, h4, h5⟩ | ⟨h4, h5⟩
    · exact Or.inl ⟨k, by omega, h3, h4, h5⟩
    · exact Or.inr ⟨h4, h5⟩
theorem syncP_work (x y : Int32) : syncP (f95_work x y) (f231_work x y) := by
  rintro A B ⟨n, k, c, b, h0, -⟩
  have hk := h0.2.1.2.2.1
  have hk12 := hk.1
  have e6 : A 21 6 = znn k := h0.1.2.2.1.1.trans hk.2.1
  obtain ⟨d, hd, ed⟩ := h0.2.2.2.1.2.2.2.1
  have e8 : A 2 8 = znn d := h0.2.2.1.1.2.2.2.2.1.trans ed
  unfold f95_work f231_work
  rw [e6, hk.2.1]
  rcases idx_eq (x := x) (m := k) (by omega) with ⟨i, hi, rfl, e1, e2⟩ | ⟨e1, e2⟩
  case inr => rw [e1, e2]; exact ⟨-2, rfl, rfl⟩
  rw [e1, e2]
  have hz : zin (znn i) 12 = true := (zn_zin (by omega)).mpr (by omega)
  have zz : zi (znn i) = i := zn_zi (by omega)
  simp only [Option.bind_some, hz, zz, ↓reduceIte]
  simp only [if_neg h10]
  have cell : ∀ f, f < 6 → A (22 + f) i = B 149 (90 + f + 6 * i) := fun f hf => wrk_cell (t := 21) h0.1.2.2.1 hf hi
  rcases within_ex (x := y) (lo := 0) (hi := 6) (by decide) (by decide) with ⟨f, -, hf, rfl, e3, e4⟩ | ⟨e3, e4⟩
  · rw [show f149_isIn (znn f) 0 6 = some 1 from e4]
    simp only [Option.bind_some, if_neg h10]
    by_cases h6 : f = 6
    · subst h6
      rw [if_neg (show ¬ znn 6 = 0 by decide), if_neg (show ¬ znn 6 = 1 by decide), if_neg (show ¬ znn 6 = 2 by decide), if_neg (show ¬ znn 6 = 3 by decide), if_neg (show ¬ znn 6 = 4 by decide), if_neg (show ¬ znn 6 = 5 by decide), if_pos (show znn 6 = 6 from rfl), if_neg (show ¬ znn 6 < 6 by decide), e8, isIn_zn hd (by omega)]
      have hdn : f224_isDone (znn i) B = some (if d.testBit i = true then 1 else 0) := by
        unfold f224_isDone
        rw [ed, zbit hd (by omega)]
        split <;> rfl
      rw [hdn]
      by_cases hb : d.testBit i = true
      · rw [if_pos hb]; exact ⟨1, rfl, rfl⟩
      · rw [if_neg hb]; exact ⟨0, rfl, rfl⟩
    · rw [if_pos (show znn f < 6 by rw [zl6, zn_lt (by omega) (by decide)]; omega), ofWork_eq (by omega) (by omega)]
      have hf6 : f = 0 ∨ f = 1 ∨ f = 2 ∨ f = 3 ∨ f = 4 ∨ f = 5 := by omega
      rcases hf6 with rfl | rfl | rfl | rfl | rfl | rfl
      · exact ⟨_, rfl, by rw [← cell 0 (by decide)]; rfl⟩
      · exact ⟨_, rfl, by rw [← cell 1 (by decide)]; rfl⟩
      · exact ⟨_, rfl, by rw [← cell 2 (by decide)]; rfl⟩
      · exact ⟨_, rfl, by rw [← cell 3 (by decide)]; rfl⟩
      · exact ⟨_, rfl, by rw [← cell 4 (by decide)]; rfl⟩
      · exact ⟨_, rfl, by rw [← cell 5 (by decide)]; rfl⟩
  · rw [show f149_isIn y 0 6 = some 0 from e4]
    rw [within_eq] at e3
    have hy : ∀ k : Nat, k ≤ 6 → ¬ y = znn k := by
      intro k hk hc
      subst hc
      rw [if_neg (by rw [zn_lt (by omega) (by omega), zn_lt (by omega) (by omega)]; omega)] at e3
      cases e3
    simp only [if_neg (show ¬ y = 0 from hy 0 (by decide)), if_neg (show ¬ y = 1 from hy 1 (by decide)), if_neg (show ¬ y = 2 from hy 2 (by decide)), if_neg (show ¬ y = 3 from hy 3 (by decide)), if_neg (show ¬ y = 4 from hy 4 (by decide)), if_neg (show ¬ y = 5 from hy 5 (by decide)), if_neg (show ¬ y = 6 from hy 6 (by decide))]
    exact ⟨-2, rfl, rfl⟩
theorem syncP_book (x y : Int32) : syncP (f96_book x y) (f232_book x y) := by
  rintro A B ⟨n, k, c, b, h0, -⟩
  obtain ⟨l, hl, el⟩ := h0.2.2.2.1.2.2.1
  have e10 : A 2 10 = znn l := h0.2.2.1.1.2.2.2.2.2.2.trans el
  unfold f96_book f232_book
  rw [e10, el]
  rcases idx_eq (x := x) (m := l) (by omega) with ⟨i, hi, rfl, e1, e2⟩ | ⟨e1, e2⟩
  case inr => rw [e1, e2]; exact ⟨-2, rfl, rfl⟩
  rw [e1, e2]
  have hz : zin (znn i) 150 = true := (zn_zin (by omega)).mpr (by omega)
  have zz : zi (znn i) = i := zn_zi (by omega)
  simp only [Option.bind_some, hz, zz, ↓reduceIte]
  simp only [if_neg h10]
  obtain ⟨b1, b2, b3, b4⟩ := h0.2.2.2.2 i (by omega)
  rcases within_ex (x := y) (lo := 0) (hi := 3) (by decide) (by decide) with ⟨f, -, hf, rfl, e3, e4⟩ | ⟨e3, e4⟩
  · rw [show f149_isIn (znn f) 0 3 = some 1 from e4]
    simp only [Option.bind_some, if_neg h10]
    have hix : ((578 : Int32) + 4 * znn i) + znn f = znn (578 + 4 * i + f) := by rw [zl578, zl4, zn_mul, zn_add, zn_add]
    rw [hix, if_pos ((zn_zin (i := 578 + 4 * i + f) (n := 2064) (by omega)).mpr (by omega)), zn_zi (show 578 + 4 * i + f < 2147483648 by omega)]
    have hf4 : f = 0 ∨ f = 1 ∨ f = 2 ∨ f = 3 := by omega
    rcases hf4 with rfl | rfl | rfl | rfl
    · exact ⟨_, rfl, by rw [b1, Nat.add_zero]⟩
    · exact ⟨_, rfl, by rw [b2, show 578 + 4 * i + 1 = 579 + 4 * i by omega]⟩
    · exact ⟨_, rfl, by rw [b3, show 578 + 4 * i + 2 = 580 + 4 * i by omega]⟩
    · exact ⟨_, rfl, by rw [b4, show 578 + 4 * i + 3 = 581 + 4 * i by omega]⟩
  · rw [show f149_isIn y 0 3 = some 0 from e4]
    rw [within_eq] at e3
    have hy : ∀ k : Nat, k ≤ 3 → ¬ y = znn k := by
      intro k hk hc
      subst hc
      rw [if_neg (by rw [zn_lt (by omega) (by omega), zn_lt (by omega) (by omega)]; omega)] at e3
      cases e3
    simp only [if_neg (show ¬ y = 0 from hy 0 (by decide)), if_neg (show ¬ y = 1 from hy 1 (by decide)), if_neg (show ¬ y = 2 from hy 2 (by decide)), if_neg (show ¬ y = 3 from hy 3 (by decide))]
    exact ⟨-2, rfl, rfl⟩
theorem syncP_fault (x : Int32) : syncP (f91_fault x) (f197_fault x) := by
  rintro A B ⟨n, k, c, b, -, -, -, t, -, -, -, -, h1, h2⟩
  unfold f91_fault f197_fault
  rw [h1, h2]
  by_cases c0 : x = 0
  · simp only [if_pos c0]; exact ⟨_, rfl, rfl⟩
  · simp only [if_neg c0]
    by_cases c1 : x = 1
    · simp only [if_pos c1]; exact ⟨_, rfl, rfl⟩
    · simp only [if_neg c1]; exact ⟨_, rfl, rfl⟩
theorem syncP_plan (x y z : Int32) : syncP (f99_plan x y z) (f228_plan x y z) := by
  rintro A B ⟨n, k, c, b, h0, -⟩
  have hn10 := h0.2.1.1.1
  have hk := h0.2.1.2.2.1
  obtain ⟨d, hd, ed⟩ := h0.2.2.2.1.2.2.2.1
  have e8 : A 2 8 = znn d := h0.2.2.1.1.2.2.2.2.1.trans ed
  unfold f99_plan f228_plan
  rcases has_eq h0 x with ⟨p, hp, rfl, e1, e2⟩ | ⟨e1, e2⟩
  case inr => rw [e1, e2]; exact ⟨-1, rfl, rfl⟩
  rw [e1, e2]
  simp only [Option.bind_some]
  simp only [if_neg h10]
  rcases within_ex (x := y) (lo := 0) (hi := 24) (by decide) (by decide) with ⟨u, -, hu, rfl, e3, e4⟩ | ⟨e3, e4⟩
  case inr => rw [show f13_within y 0 24 = some 0 from e3, show f149_isIn y 0 24 = some 0 from e4]; exact ⟨-1, rfl, rfl⟩
  rw [show f13_within (znn u) 0 24 = some 1 from e3, show f149_isIn (znn u) 0 24 = some 1 from e4]
  simp only [Option.bind_some]
  simp only [if_neg h10]
  rcases within_ex (x := z) (lo := 0) (hi := 2) (by decide) (by decide) with ⟨v, -, hv, rfl, e5, e6⟩ | ⟨e5, e6⟩
  case inr => rw [show f13_within z 0 2 = some 0 from e5, show f149_isIn z 0 2 = some 0 from e6]; exact ⟨-1, rfl, rfl⟩
  rw [show f13_within (znn v) 0 2 = some 1 from e5, show f149_isIn (znn v) 0 2 = some 1 from e6]
  simp only [Option.bind_some]
  simp only [if_neg h10]
  obtain ⟨s, hs, es⟩ := plan_cls h0.1.2.2.1 hk hn10 hp hu hd
  obtain ⟨s', hs', es'⟩ := plan_ref (M := B) (p := p) rfl hk hn10 hu hd ed
  have := pBest_uniq hs hs'
  subst this
  have s4 := (pBest_4096 hk.1 hs).2.1
  rw [e8, es, es']
  simp only [Option.bind_some]
  rw [show f42_sum 21 (znn s) 24 A = some (znn (wSum (B 149) 2 s k)) from sum_cls h0.1.2.2.1 hk hn10 (f := 2) (by decide) s4, show f42_sum 21 (znn s) 23 A = some (znn (wSum (B 149) 1 s k)) from sum_cls h0.1.2.2.1 hk hn10 (f := 1) (by decide) s4, show f221_sumOf (znn s) 2 B = some (znn (wSum (B 149) 2 s k)) from sum_ref2 rfl hk hn10 (f := 2) (by decide) s4, show f221_sumOf (znn s) 1 B = some (znn (wSum (B 149) 1 s k)) from sum_ref2 rfl hk hn10 (f := 1) (by decide) s4]
  have hv3 : v = 0 ∨ v = 1 ∨ v = 2 := by omega
  rcases hv3 with rfl | rfl | rfl <;> exact ⟨_, rfl, rfl⟩
theorem syncP_rests (x : Int32) : syncP (f122_rests x) (f260_rests x) := by
  rintro A B ⟨n, k, c, b, h0, -⟩
  obtain ⟨l, hl1, hl, el⟩ := h0.2.1.1.2.2.2.1
  obtain ⟨e, he, ee⟩ := h0.2.2.2.1.1
  have e13 : A 1 13 = znn l := h0.1.1.1.2.2.1.trans el
  have e4 : A 2 4 = znn e := h0.2.2.1.1.1.trans ee
  unfold f122_rests f260_rests
  rw [e13, e4, el, ee]
  have hall : ∀ l : Fin 25, ∀ e : Fin 25, ∀ u : Fin 25, 1 ≤ u.val → ((if 0 < znn l.val - znn e.val then if znn u.val = 0 then none else some (((znn l.val - znn e.val) + znn u.val - 1) / znn u.val) else some 0) : Option Int32) = (f213_greater 0 (znn l.val - znn e.val)).bind fun v2 => if znn u.val = 0 then none else some (((v2 + znn u.val) - 1) / znn u.val) := by decide +kernel
  rcases within_ex (x := x) (lo := 1) (hi := 24) (by decide) (by decide) with ⟨u, hu1, hu, rfl, e1, e2⟩ | ⟨e1, e2⟩
  · rw [show f149_isIn (znn u) 1 24 = some 1 from e2]
    rw [within_eq] at e1
    have h1 : ¬ znn u < 1 := by rw [zl1, zn_lt (by omega) (by decide)]; omega
    have h2 : ¬ 24 < znn u := by rw [zl24, zn_lt (by decide) (by omega)]; omega
    rw [if_neg h1, if_neg h2]
    simp only [Option.bind_some, zlet]
    simp only [if_neg h10]
    have := hall ⟨l, by omega⟩ ⟨e, by omega⟩ ⟨u, by omega⟩ hu1
    simp only at this
    rw [this]
    rw [gre_eq]
    simp only [Option.bind_some]
    rw [if_neg (show ¬ znn u = 0 by rw [zl0, zn_eq (by omega) (by decide)]; omega)]
    exact ⟨_, rfl, rfl⟩
  · rw [show f149_isIn x 1 24 = some 0 from e2]
    rw [within_eq] at e1
    by_cases hx : x < 1
    · rw [if_pos hx]; exact ⟨-1, rfl, rfl⟩
    · rw [if_neg hx]
      by_cases hx2 : 24 < x
      · rw [if_pos hx2]; exact ⟨-1, rfl, rfl⟩
      · rw [if_neg (by
          intro hc
          rcases hc with hc | hc
          · exact hx hc
          · exact hx2 hc)] at e1
        cases e1
theorem syncP_weekday (x y z t : Int32) : syncP (fun _ => f123_weekday x y z t) (fun _ => f261_weekday x y z t) := by
  rintro A B -
  show ∃ v, f123_weekday x y z t = some v ∧ f261_weekday x y z t = some v
  unfold f123_weekday f261_weekday
  simp only [within_eq, isIn_eq, Option.bind_some, zlet]
  generalize hx : (if x < 0 ∨ 364 < x then (0 : Int32) else 1) = vx
  generalize hy : (if y < 0 ∨ 999 < y then (0 : Int32) else 1) = vy
  generalize hz : (if z < 0 ∨ 1 < z then (0 : Int32) else 1) = vz
  generalize ht : (if t < 0 ∨ 364 < t then (0 : Int32) else 1) = vt
  by_cases c1 : vx = 0
  · rw [if_pos c1, if_pos c1]; exact ⟨_, rfl, rfl⟩
  rw [if_neg c1, if_neg c1]
  by_cases c2 : vy = 0
  · rw [if_pos c2, if_pos c2]; exact ⟨_, rfl, rfl⟩
  rw [if_neg c2, if_neg c2]
  by_cases c3 : vz = 0
  · rw [if_pos c3, if_pos c3]; exact ⟨_, rfl, rfl⟩
  rw [if_neg c3, if_neg c3]
  by_cases c4 : vt = 0
  · rw [if_pos c4, if_pos c4]; exact ⟨_, rfl, rfl⟩
  rw [if_neg c4, if_neg c4]
  by_cases c5 : x < t
  · rw [if_pos c5, if_pos c5]
    exact ⟨_, rfl, by simp only [Int32.add_assoc]⟩
  · rw [if_neg c5, if_neg c5]
    exact ⟨_, rfl, by simp only [Int32.add_assoc]⟩
theorem share_eq {a b h : Nat} (ha : a ≤ 48) (hb : b ≤ 48) (hh : h ≤ 24) (hab : h < a + b) : zmin (2 * znn a) (2 * zmin (znn a) (zmax 0 (znn h - znn b)) + (znn h - zmin (znn a) (zmax 0 (znn h - znn b)) - zmin (znn b) (zmax 0 (znn h - znn a)))) = 2 * zmin (znn a) (zmax 0 (znn h - znn b)) + znn h - zmin (znn a) (zmax 0 (znn h - znn b)) - zmin (znn b) (zmax 0 (znn h - znn a)) := by
  have hm : ∀ p q : Nat, p ≤ 48 → q ≤ 48 → zmin (znn p) (znn q) = znn (min p q) := fun p q hp hq => by
    unfold zmin
    by_cases hc : znn q < znn p
    · rw [if_pos hc]
      rw [zn_lt (by omega) (by omega)] at hc
      congr 1; omega
    · rw [if_neg hc]
      rw [zn_lt (by omega) (by omega)] at hc
      congr 1; omega
  have hx : ∀ p q : Nat, p ≤ 48 → q ≤ 48 → zmax 0 (znn p - znn q) = znn (p - q) := fun p q hp hq => by
    obtain ⟨g1, g2⟩ := zgt0 (a := p) (b := q) (by omega) (by omega)
    unfold zmax
    by_cases hc : q < p
    · rw [if_pos (g1.mpr hc), zn_sub (by omega)]
    · rw [if_neg (fun h => hc (g1.mp h)), show p - q = 0 by omega]; rfl
  rw [hx h b (by omega) hb, hx h a (by omega) ha, hm a (h - b) ha (by omega), hm b (h - a) hb (by omega), zl2, zn_mul, zn_mul]
  generalize e1 : min a (h - b) = u
  generalize e2 : min b (h - a) = v
  have h1 : u ≤ h := by omega
  have h2 : v ≤ h - u := by omega
  have h3 : 2 * u + (h - u - v) ≤ 2 * a := by omega
  rw [zn_sub h1, zn_sub h2, zn_add, zn_add, zn_sub (by omega), zn_sub (by omega)]
  rw [show 2 * u + h - u - v = 2 * u + (h - u - v) by omega]
  unfold zmin
  by_cases hc : znn (2 * u + (h - u - v)) < znn (2 * a)
  · rw [if_pos hc]
  · rw [if_neg hc]
    rw [zn_lt (by omega) (by omega)] at hc
    congr 1; omega
theorem syncP_share (x y z : Int32) : syncP (f115_share x y z) (f256_share x y z) := by
  rintro A B ⟨n, k, c, b, h0, -⟩
  obtain ⟨e, he, ee⟩ := h0.2.2.2.1.1
  have e4 : A 2 4 = znn e := h0.2.2.1.1.1.trans ee
  have e24 : (24 : Int32) - znn e = znn (24 - e) := zn_sub (i := 24) he
  unfold f115_share f256_share f39_hoursLeft f219_hoursNow f257_ownOf
  rw [e4, ee, e24]
  rcases within_ex (x := x) (lo := 0) (hi := 48) (by decide) (by decide) with ⟨u, -, hu, rfl, e1, e2⟩ | ⟨e1, e2⟩
  case inr => rw [show f13_within x 0 48 = some 0 from e1, show f149_isIn x 0 48 = some 0 from e2]; exact ⟨-1, rfl, rfl⟩
  rw [show f13_within (znn u) 0 48 = some 1 from e1, show f149_isIn (znn u) 0 48 = some 1 from e2]
  rcases within_ex (x := y) (lo := 0) (hi := 48) (by decide) (by decide) with ⟨v, -, hv, rfl, e3, e4⟩ | ⟨e3, e4⟩
  case inr => rw [show f13_within y 0 48 = some 0 from e3, show f149_isIn y 0 48 = some 0 from e4]; exact ⟨-1, rfl, rfl⟩
  rw [show f13_within (znn v) 0 48 = some 1 from e3, show f149_isIn (znn v) 0 48 = some 1 from e4]
  rcases within_ex (x := z) (lo := 0) (hi := 1) (by decide) (by decide) with ⟨q, -, hq, rfl, e5, e6⟩ | ⟨e5, e6⟩
  case inr => rw [show f13_within z 0 1 = some 0 from e5, show f149_isIn z 0 1 = some 0 from e6]; exact ⟨-1, rfl, rfl⟩
  rw [show f13_within (znn q) 0 1 = some 1 from e5, show f149_isIn (znn q) 0 1 = some 1 from e6]
  simp only [Option.bind_some, zlet, gre_eq, les_eq]
  simp only [if_neg h10]
  rw [zn_add]
  by_cases hab : 24 - e < u + v
  · have hlt : znn (24 - e) < znn (u + v) := (zn_lt (by omega) (by omega)).mpr hab
    simp only [if_pos hlt]
    have s1 := share_eq (a := u) (b := v) (h := 24 - e) hu hv (by omega) hab
    have s2 := share_eq (a := v) (b := u) (h := 24 - e) hv hu (by omega) (by omega)
    have hq2 : q = 0 ∨ q = 1 := by omega
    rcases hq2 with rfl | rfl
    · simp only [if_pos (show znn 0 = 0 from rfl), Option.bind_some]
      exact ⟨_, rfl, by rw [s1]⟩
    · simp only [if_neg (show ¬ znn 1 = 0 by decide), Option.bind_some]
      refine ⟨_, rfl, ?_⟩
      have sw : znn (24 - e) - zmin (znn u) (zmax 0 (znn (24 - e) - znn v)) - zmin (znn v) (zmax 0 (znn (24 - e) - znn u)) = znn (24 - e) - zmin (znn v) (zmax 0 (znn (24 - e) - znn u)) - zmin (znn u) (zmax 0 (znn (24 - e) - znn v)) := by grind
      have sw2 : 2 * zmin (znn v) (zmax 0 (znn (24 - e) - znn u)) + znn (24 - e) - zmin (znn v) (zmax 0 (znn (24 - e) - znn u)) - zmin (znn u) (zmax 0 (znn (24 - e) - znn v)) = 2 * zmin (znn v) (zmax 0 (znn (24 - e) - znn u)) + znn (24 - e) - zmin (znn u) (zmax 0 (znn (24 - e) - znn v)) - zmin (znn v) (zmax 0 (znn (24 - e) - znn u)) := by grind
      rw [sw, s2, sw2]
  · have hlt : ¬ znn (24 - e) < znn (u + v) := by rw [zn_lt (by omega) (by omega)]; exact hab
    simp only [if_neg hlt]
    have hq2 : q = 0 ∨ q = 1 := by omega
    rcases hq2 with rfl | rfl
    · simp only [if_pos (show znn 0 = 0 from rfl), Option.bind_some]
      exact ⟨_, rfl, rfl⟩
    · simp only [if_neg (show ¬ znn 1 = 0 by decide), Option.bind_some]
      exact ⟨_, rfl, rfl⟩
