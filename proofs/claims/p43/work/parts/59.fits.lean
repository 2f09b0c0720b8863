-- ===== fits, thieves, lookAt =====
def togB (w : Nat → Int32) (k p s d : Nat) : Bool := (List.range k).all fun i => !s.testBit i || (decide (w (90 + 6 * i) = znn p) && (decide (w (95 + 6 * i) = -1) || (s.testBit (zi (w (95 + 6 * i))) || d.testBit (zi (w (95 + 6 * i))))))
theorem togB_iff {w : Nat → Int32} {k p s d : Nat} : togB w k p s d = true ↔ wTog w k p s d := by
  unfold togB wTog wAft
  rw [List.all_eq_true]
  constructor
  · intro h i hi hb
    have := h i (List.mem_range.mpr hi)
    rw [hb] at this
    simpa using this
  · intro h i hi
    have hik := List.mem_range.mp hi
    by_cases hb : s.testBit i = true
    · have := h i hik hb
      rw [hb]
      simpa using this
    · simp [hb]
def fB (w : Nat → Int32) (k p s : Nat) : Bool := decide (znn (wSum w 3 s k) = w 56) && decide (znn (wSum w 4 s k) = w 57) && decide (wSum w 1 s k ≤ 24) && togB w k p s (zi (w 6))
def fN (P : Nat → Bool) : Nat → Nat
  | 0 => 0
  | j + 1 => fN P j + (if P j = true then 1 else 0)
theorem fN_le (P : Nat → Bool) : ∀ j, fN P j ≤ j
  | 0 => Nat.le_refl _
  | j + 1 => by
    have := fN_le P j
    unfold fN
    split <;> omega
theorem fN_skip {P : Nat → Bool} {x : Nat} : ∀ d, (∀ s, x ≤ s → s < x + d → P s = false) → fN P (x + d) = fN P x
  | 0, _ => rfl
  | d + 1, h => by
    have := fN_skip (P := P) (x := x) d (fun s h1 h2 => h s h1 (by omega))
    rw [show x + (d + 1) = (x + d) + 1 from rfl, fN, h (x + d) (by omega) (by omega), this]
    rfl
theorem fN_skip' {P : Nat → Bool} {x y : Nat} (hxy : x ≤ y) (h : ∀ s, x ≤ s → s < y → P s = false) : fN P y = fN P x := by
  have := fN_skip (P := P) (x := x) (y - x) (fun s h1 h2 => h s h1 (by omega))
  rwa [show x + (y - x) = y by omega] at this
theorem fN_0 {P : Nat → Bool} : ∀ j, fN P j = 0 → ∀ s, s < j → P s = false
  | 0, _, s, hs => by omega
  | j + 1, h, s, hs => by
    unfold fN at h
    by_cases hsj : s = j
    · subst hsj
      by_cases hp : P s = true
      · rw [if_pos hp] at h; omega
      · simpa using hp
    · exact fN_0 j (by omega) s (by omega)
theorem fN_pos {P : Nat → Bool} {s : Nat} (hs : P s = true) : ∀ j, s < j → 0 < fN P j
  | 0, h => by omega
  | j + 1, h => by
    unfold fN
    by_cases hsj : s = j
    · subst hsj
      rw [if_pos hs]; omega
    · have := fN_pos hs j (by omega)
      omega
def firstIs (P : Nat → Bool) (N : Nat) (v : Int32) : Prop := (v = -1 ∧ ∀ s, s < N → P s = false) ∨ ∃ s, s < N ∧ P s = true ∧ v = znn s ∧ ∀ r, r < s → P r = false
theorem firstIs_skip {P : Nat → Bool} {x y : Nat} {v : Int32} (hxy : x ≤ y) (h : ∀ s, x ≤ s → s < y → P s = false) (hf : firstIs P x v) : firstIs P y v := by
  rcases hf with ⟨h1, h2⟩ | ⟨s, h1, h2, h3, h4⟩
  · exact Or.inl ⟨h1, fun s hs => by
      by_cases hsx : s < x
      · exact h2 s hsx
      · exact h s (by omega) hs⟩
  · exact Or.inr ⟨s, by omega, h2, h3, h4⟩
theorem firstIs_one {P : Nat → Bool} {N : Nat} {v v' : Int32} (h : firstIs P N v) (h' : firstIs P N v') : v = v' := by
  rcases h with ⟨h1, h2⟩ | ⟨s, h1, h2, h3, h4⟩ <;> rcases h' with ⟨g1, g2⟩ | ⟨r, g1, g2, g3, g4⟩
  · rw [h1, g1]
  · rw [h2 r g1] at g2; exact absurd g2 (by decide)
  · rw [g2 s h1] at h2; exact absurd h2 (by decide)
  · have : s = r := by
      rcases Nat.lt_trichotomy s r with h | h | h
      · rw [g4 s h] at h2; exact absurd h2 (by decide)
      · exact h
      · rw [h4 r h] at g2; exact absurd g2 (by decide)
    rw [h3, g3, this]
theorem fB_sub {w : Nat → Int32} {k p o s : Nat} (hb : ∀ i, o.testBit i = true ↔ i < k ∧ w (90 + 6 * i) = znn p ∧ zi (w (91 + 6 * i)) ≤ 24) (hs : s < 2 ^ k) (h : fB w k p s = true) : s &&& o = s := by
  unfold fB at h
  simp only [Bool.and_eq_true, decide_eq_true_eq] at h
  obtain ⟨⟨-, h2⟩, h3⟩ := h
  have h3 := togB_iff.mp h3
  refine sub_of fun i hi => ?_
  have hik := tb_lt hs hi
  refine (hb i).mpr ⟨hik, (h3 i hik hi).1, ?_⟩
  have := wSum_ge (w := w) (f := 1) k hik hi
  have e : w (90 + 1 + 6 * i) = w (91 + 6 * i) := rfl
  rw [e] at this
  omega
/-- one that fits: each work in it is counted -/
theorem each_cls {M : ZI} {w : Nat → Int32} {k s : Nat} (h6 : M 21 6 = znn k) (hk12 : k ≤ 12) (hs : s < 4096) : ∃ M', f112_l24 21 (znn s) zfu 0 M = some M' ∧ (∀ i, i < k → M' 28 i = M 28 i + (if s.testBit i = true then 1 else 0)) ∧ ∀ o, o ≠ 28 → M' o = M o := by
  obtain ⟨r, g1, g2, g3⟩ := zloop (fun f (a : ZI) c => f112_l24 21 (znn s) f c a) k (fun i a => (∀ j, j < i → a 28 j = M 28 j + (if s.testBit j = true then 1 else 0)) ∧ (∀ j, i ≤ j → a 28 j = M 28 j) ∧ ∀ o, o ≠ 28 → a o = M o) (fun a => (∀ i, i < k → a 28 i = M 28 i + (if s.testBit i = true then 1 else 0)) ∧ ∀ o, o ≠ 28 → a o = M o) (fun f i a hi ha => by
    obtain ⟨q1, q2, q3⟩ := ha
    left
    (try dsimp only)
    have hz : zin (znn i) 12 = true := (zn_zin (by omega)).mpr (by omega)
    rw [f112_l24, q3 21 (by decide), h6, if_pos ((zn_lt (by omega) (by omega)).mpr hi), isIn_zn hs (by omega), zadd1]
    simp only [Option.bind_some]
    by_cases hb : s.testBit i = true
    · rw [if_pos hb, if_neg (by decide), if_pos hz, if_pos hz, zn_zi (by omega)]
      refine ⟨zs a 28 i (a 28 i + 1), ⟨fun j hj => ?_, fun j hj => ?_, fun o ho => by rw [zs_df ho]; exact q3 o ho⟩, rfl⟩
      · rw [zs_sm]
        by_cases hji : j = i
        · rw [if_pos hji, hji, q2 i (Nat.le_refl _), if_pos hb]
        · rw [if_neg hji]; exact q1 j (by omega)
      · rw [zs_sm, if_neg (by omega)]; exact q2 j (by omega)
    · rw [if_neg hb, if_pos rfl]
      refine ⟨a, ⟨fun j hj => ?_, fun j hj => q2 j (by omega), q3⟩, rfl⟩
      by_cases hji : j = i
      · rw [hji, q2 i (Nat.le_refl _), if_neg hb, Int32.add_zero]
      · exact q1 j (by omega)) (fun f a ha => by
    obtain ⟨q1, q2, q3⟩ := ha
    have hng : ¬ znn k < znn k := by rw [zn_lt (by omega) (by omega)]; omega
    refine ⟨a, ⟨q1, q3⟩, ?_⟩
    (try dsimp only)
    rw [f112_l24, q3 21 (by decide), h6, if_neg hng]) zfu 0 M (by omega) (by rw [zfu_eq]; omega) ⟨fun j hj => by omega, fun _ _ => rfl, fun _ _ => rfl⟩
  exact ⟨r, g1, g2, g3⟩
def fitSt (A M : ZI) (w : Nat → Int32) (k p s : Nat) : Prop := M 21 8 = znn (fN (fB w k p) s) ∧ firstIs (fB w k p) s (M 21 9) ∧ (∀ i, i < k → M 28 i = znn (fN (fun r => fB w k p r && r.testBit i) s)) ∧ (∀ o, o ≠ 21 → o ≠ 28 → M o = A o) ∧ ∀ j, j ≠ 8 → j ≠ 9 → M 21 j = A 21 j
theorem fitSt_skip {A M : ZI} {w : Nat → Int32} {k p x y : Nat} (hxy : x ≤ y) (h : ∀ s, x ≤ s → s < y → fB w k p s = false) (hf : fitSt A M w k p x) : fitSt A M w k p y := by
  obtain ⟨h1, h2, h3, h4, h5⟩ := hf
  refine ⟨by rw [fN_skip' hxy h]; exact h1, firstIs_skip hxy h h2, fun i hi => ?_, h4, h5⟩
  rw [fN_skip' hxy (fun s q1 q2 => by rw [h s q1 q2]; rfl)]
  exact h3 i hi
theorem fit_one {A M : ZI} {w : Nat → Int32} {n k p o s : Nat} (hi : wrkIs A 21 w k) (hk : wrkOk w n k) (hn : n ≤ 10) (hmo : ∃ d, d < 4096 ∧ w 6 = znn d) (hb : ∀ i, o.testBit i = true ↔ i < k ∧ w (90 + 6 * i) = znn p ∧ zi (w (91 + 6 * i)) ≤ 24) (hso : s &&& o = s) (ho : o < 2 ^ k) (hf : fitSt A M w k p s) :
    ∃ M', ((f42_sum 21 (znn s) (21 + 4) M).bind fun v12 => ((if v12 = w 56 then (f42_sum 21 (znn s) (21 + 5) M).bind fun v13 => (if v13 = w 57 then (f42_sum 21 (znn s) (21 + 2) M).bind fun v14 => (if (24 : Int32) < v14 then some M else (f43_isWhole 21 (znn s) (w 6) M).bind fun v15 => (if v15 = 0 then some M else (f112_countFit 21 (znn s) M).bind fun M16 => some M16)) else some M) else some M) : Option (ZI))) = some M' ∧ fitSt A M' w k p (s + 1) := by
  obtain ⟨h1, h2, h3, h4, h5⟩ := id hf
  obtain ⟨d, hd, e6⟩ := hmo
  have hk12 := hk.1
  have hp4 := pow_4096 hk12
  have hsle : s ≤ o := by rw [← hso]; exact Nat.and_le_right
  have hs : s < 4096 := by omega
  have hi' : wrkIs M 21 w k := wrkIs_of hi (h5 6 (by decide) (by decide)) (fun q q1 q2 => h4 q (by omega) (by omega))
  have h6 : M 21 6 = znn k := hi'.1.trans hk.2.1
  have zd : zi (w 6) = d := by rw [e6, zn_zi (by omega)]
  have no : fB w k p s = false → fitSt A M w k p (s + 1) := fun hF => fitSt_skip (by omega) (fun r q1 q2 => by rw [show r = s by omega]; exact hF) hf
  rw [show f42_sum 21 (znn s) (21 + 4) M = _ from sum_cls hi' hk hn (f := 3) (by decide) hs, Option.bind_some]
  by_cases c1 : znn (wSum w 3 s k) = w 56
  case neg => exact ⟨M, by rw [if_neg c1], no (by unfold fB; simp [c1])⟩
  rw [if_pos c1, show f42_sum 21 (znn s) (21 + 5) M = _ from sum_cls hi' hk hn (f := 4) (by decide) hs, Option.bind_some]
  by_cases c2 : znn (wSum w 4 s k) = w 57
  case neg => exact ⟨M, by rw [if_neg c2], no (by unfold fB; simp [c2])⟩
  rw [if_pos c2, show f42_sum 21 (znn s) (21 + 2) M = _ from sum_cls hi' hk hn (f := 1) (by decide) hs, Option.bind_some]
  have bd := wSum_bd (f := 1) (s := s) hk hn (by decide)
  by_cases c3 : 24 < wSum w 1 s k
  · exact ⟨M, by rw [if_pos (show (24 : Int32) < znn (wSum w 1 s k) by rw [zl24, zn_lt (by decide) (by omega)]; exact c3)], no (by unfold fB; simp [show ¬ wSum w 1 s k ≤ 24 by omega])⟩
  obtain ⟨b, eb, hbb⟩ := whole_cls hi' hk hs hd
  rw [if_neg (show ¬ (24 : Int32) < znn (wSum w 1 s k) by rw [zl24, zn_lt (by decide) (by omega)]; exact c3), e6, eb, Option.bind_some]
  have htog : b = true ↔ wTog w k p s (zi (w 6)) := by
    rw [hbb, zd]
    constructor
    · exact fun h i hi hbi => ⟨((hb i).mp (of_sub hso hbi)).2.1, h i hi hbi⟩
    · exact fun h i hi hbi => (h i hi hbi).2
  by_cases c4 : b = true
  case neg => exact ⟨M, by rw [if_neg c4, if_pos rfl], no (by
    unfold fB
    have : ¬ wTog w k p s (zi (w 6)) := fun h => c4 (htog.mpr h)
    simp [show togB w k p s (zi (w 6)) = false from Bool.eq_false_iff.mpr (fun h => this (togB_iff.mp h))])⟩
  have hF : fB w k p s = true := by
    unfold fB
    simp [c1, c2, show wSum w 1 s k ≤ 24 by omega, togB_iff.mpr (htog.mp c4)]
  rw [if_pos c4, if_neg (by decide)]
  have hN := fN_le (fB w k p) s
  -- the first of them is kept
  have first : ∃ M2, ((if (M 21 8) = 0 then zlet (zs M 21 9 (znn s)) fun (M1 : ZI) => some M1 else some M) : Option (ZI)) = some M2 ∧ firstIs (fB w k p) (s + 1) (M2 21 9) ∧ (∀ o, o ≠ 21 → M2 o = M o) ∧ ∀ j, j ≠ 9 → M2 21 j = M 21 j := by
    by_cases c0 : fN (fB w k p) s = 0
    · refine ⟨zs M 21 9 (znn s), by rw [h1, c0]; rfl, ?_, fun o ho => zs_df ho, fun j hj => by rw [zs_sm, if_neg hj]⟩
      rw [zs_sm, if_pos rfl]
      exact Or.inr ⟨s, by omega, hF, rfl, fun r hr => fN_0 s c0 r hr⟩
    · refine ⟨M, by rw [h1, if_neg (by rw [zl0, zn_eq (by omega) (by decide)]; exact c0)], ?_, fun _ _ => rfl, fun _ _ => rfl⟩
      rcases h2 with ⟨-, h2⟩ | ⟨r, q1, q2, q3, q4⟩
      · exact absurd (fN_skip' (Nat.zero_le s) (fun r _ hr => h2 r hr)) c0
      · exact Or.inr ⟨r, by omega, q2, q3, q4⟩
  obtain ⟨M2, m1, m2, m3, m4⟩ := first
  have e8 : M2 21 8 + 1 = znn (fN (fB w k p) s + 1) := by rw [m4 8 (by decide), h1, zadd1]
  obtain ⟨M4, n1, n2, n3⟩ := each_cls (M := zs M2 21 8 (M2 21 8 + 1)) (w := w) (k := k) (s := s) (by rw [zs_sm, if_neg (by decide), m4 6 (by decide)]; exact h6) hk12 hs
  refine ⟨M4, ?_, ?_, ?_, fun i hi => ?_, fun o q1 q2 => ?_, fun j q1 q2 => ?_⟩
  · unfold f112_countFit
    rw [m1, Option.bind_some, zlet_e, n1]
    rfl
  · rw [n3 21 (by decide), zs_sm, if_pos rfl, e8, fN, if_pos hF]
  · rw [n3 21 (by decide), zs_sm, if_neg (by decide)]
    exact m2
  · rw [n2 i hi, zs_df (by decide), m3 28 (by decide), h3 i hi, fN, hF, Bool.true_and]
    by_cases hbi : s.testBit i = true
    · rw [if_pos hbi, if_pos hbi, zadd1]
    · rw [if_neg hbi, if_neg hbi, Int32.add_zero, Nat.add_zero]
  · rw [n3 o q2, zs_df q1, m3 o q1]
    exact h4 o q1 q2
  · rw [n3 21 (by decide), zs_sm, if_neg q1, m4 j q2]
    exact h5 j q1 q2
theorem clear_cls {M : ZI} : ∃ M', f111_l22 21 zfu 0 M = some M' ∧ (∀ i, i < 12 → M' 28 i = 0) ∧ ∀ o, o ≠ 28 → M' o = M o := by
  obtain ⟨r, g1, g2, g3⟩ := zloop (fun f (a : ZI) c => f111_l22 21 f c a) 12 (fun i a => (∀ j, j < i → a 28 j = 0) ∧ ∀ o, o ≠ 28 → a o = M o) (fun a => (∀ i, i < 12 → a 28 i = 0) ∧ ∀ o, o ≠ 28 → a o = M o) (fun f i a hi ha => by
    obtain ⟨q1, q2⟩ := ha
    left
    (try dsimp only)
    rw [f111_l22, if_pos (show znn i < 12 by rw [zl12, zn_lt (by omega) (by decide)]; exact hi), if_pos ((zn_zin (by omega)).mpr hi), zn_zi (by omega), zadd1]
    refine ⟨zs a 28 i 0, ⟨fun j hj => ?_, fun o ho => by rw [zs_df ho]; exact q2 o ho⟩, rfl⟩
    rw [zs_sm]
    by_cases hji : j = i
    · rw [if_pos hji]
    · rw [if_neg hji]; exact q1 j (by omega)) (fun f a ha => by
    refine ⟨a, ha, ?_⟩
    (try dsimp only)
    rw [f111_l22, if_neg (by decide)]) zfu 0 M (by omega) (by rw [zfu_eq]; omega) ⟨fun j hj => by omega, fun _ _ => rfl⟩
  exact ⟨r, g1, g2, g3⟩
theorem count_cls {A B : ZI} {n k c b p : Nat} (h0 : Inv5 A B n k c b) (hp : p < n) : ∃ A', f110_countFits 1 (znn p) A = some A' ∧ fitSt A A' (B 149) k p (2 ^ k) := by
  obtain ⟨⟨h1, -, hi, -⟩, h2, h3, h4, -⟩ := h0
  have hn := h2.1.1
  have hk := h2.2.2.1
  have hk12 := hk.1
  have hp4 := pow_4096 hk12
  obtain ⟨o, ho, e1, hb⟩ := owned_cls hi hk hn hp (show 24 ≤ 24 by decide)
  have hi21 : wrkIs A 21 (B 149) k := hi
  obtain ⟨M1, c1, c2, c3⟩ := clear_cls (M := zs (zs A 21 8 0) 21 9 (-1))
  have st0 : fitSt A M1 (B 149) k p 0 := by
    refine ⟨?_, ?_, fun i hik => c2 i (by omega), fun o q1 q2 => by rw [c3 o q2, zs_df q1, zs_df q1], fun j q1 q2 => by rw [c3 21 (by decide), zs_sm, if_neg q2, zs_sm, if_neg q1]⟩
    · rw [c3 21 (by decide), zs_sm, if_neg (by decide), zs_sm, if_pos rfl]
      rfl
    · rw [c3 21 (by decide), zs_sm, if_pos rfl]
      exact Or.inl ⟨rfl, fun s hs => by omega⟩
  have hd : A 2 8 = (B 149) 6 := h3.1.2.2.2.2.1
  have h56 : A 1 14 = B 149 56 := h1.1.2.2.2.1
  have h57 : A 1 15 = B 149 57 := h1.1.2.2.2.2
  have hmo := h4.2.2.2.1
  obtain ⟨r, g1, g2⟩ := zloop (fun f (a : Int32 × ZI) c => f111_l49 21 (B 149 6) (B 149 56) (B 149 57) (znn o) f a.1 c a.2) 4096 (fun i a => ∃ s, a.1 = znn s ∧ s &&& o = s ∧ i ≤ s ∧ fitSt A a.2 (B 149) k p s) (fun a => fitSt A a (B 149) k p (2 ^ k)) (fun f i a hi4 ha => by
    obtain ⟨x, M⟩ := a
    obtain ⟨s, rfl, hso, his, hst⟩ := ha
    (try dsimp only)
    (try dsimp only at hst)
    obtain ⟨M2, m1, m2⟩ := fit_one hi21 hk hn hmo hb hso ho hst
    obtain ⟨y, ey, hy1, hy2, hy3, hy4⟩ := next_part (show o < 4096 by omega) hso
    have e : f111_l49 21 (B 149 6) (B 149 56) (B 149 57) (znn o) (f + 1) (znn s) (znn i) M = (if (znn s - znn o) &&& znn o = 0 then some M2 else f111_l49 21 (B 149 6) (B 149 56) (B 149 57) (znn o) f ((znn s - znn o) &&& znn o) (znn i + 1) M2) := by
      rw [f111_l49, if_pos (show znn i < 4096 by rw [zl4096, zn_lt (by omega) (by decide)]; exact hi4)]
      rw [show f42_sum 21 (znn s) (21 + 4) M = _ from sum_cls (wrkIs_of hi21 (hst.2.2.2.2 6 (by decide) (by decide)) (fun q q1 q2 => hst.2.2.2.1 q (by omega) (by omega))) hk hn (f := 3) (by decide) (by
        have : s ≤ o := by rw [← hso]; exact Nat.and_le_right
        omega)] at m1 ⊢
      rw [Option.bind_some] at m1 ⊢
      rw [m1]
      rfl
    rw [e, ey, zadd1]
    by_cases hs : s = o
    · right
      subst hs
      rw [hy3 rfl, if_pos (show znn 0 = 0 from rfl)]
      refine ⟨M2, ?_, rfl⟩
      exact fitSt_skip (by omega) (fun r q1 q2 => by
        cases hF : fB (B 149) k p r with
        | false => rfl
        | true =>
          have := fB_sub hb q2 hF
          have : r ≤ s := by rw [← this]; exact Nat.and_le_right
          omega) m2
    · left
      obtain ⟨hy5, hy6⟩ := hy4 hs
      have hyo : y ≤ o := by rw [← hy1]; exact Nat.and_le_right
      rw [if_neg (by rw [zl0, zn_eq (by omega) (by decide)]; omega)]
      refine ⟨(znn y, M2), ⟨y, rfl, hy1, by omega, ?_⟩, rfl⟩
      exact fitSt_skip (by omega) (fun r q1 q2 => by
        cases hF : fB (B 149) k p r with
        | false => rfl
        | true =>
          have := hy6 r (fB_sub hb (by omega) hF) (by omega)
          omega) m2) (fun f a ha => by
    obtain ⟨s, -, hso, hs4, -⟩ := ha
    have : s ≤ o := by rw [← hso]; exact Nat.and_le_right
    omega) zfu 0 (0, M1) (by omega) (by rw [zfu_eq]; omega) ⟨0, rfl, Nat.zero_and o, Nat.le_refl _, st0⟩
  have g1 : f111_l49 21 (B 149 6) (B 149 56) (B 149 57) (znn o) zfu 0 0 M1 = some r := g1
  refine ⟨r, ?_, g2⟩
  unfold f110_countFits f111_countFits
  rw [show A (1 + 1) 8 = B 149 6 from hd, h56, h57, show f41_ownedBy (1 + 20) (znn p) 24 A = some (znn o) from e1, Option.bind_some, zlet_e, zlet_e, show f111_l22 (1 + 20) zfu 0 (zs (zs A (1 + 20) 8 0) (1 + 20) 9 (-1)) = some M1 from c1, Option.bind_some, show f111_l49 (1 + 20) (B 149 6) (B 149 56) (B 149 57) (znn o) zfu 0 0 M1 = some r from g1]
  rfl
theorem fit_scr {A A' : ZI} {w : Nat → Int32} {k p s : Nat} (h : fitSt A A' w k p s) : scrA A A' := by
  obtain ⟨-, -, -, h4, h5⟩ := h
  exact ⟨fun o _ _ _ _ q5 _ q7 _ => h4 o q7 q5, h5⟩
theorem fits_ref {B : ZI} {w : Nat → Int32} {n k p s : Nat} (hw : B 149 = w) (hk : wrkOk w n k) (hn : n ≤ 10) (hmo : ∃ d, d < 4096 ∧ w 6 = znn d) (hs : s < 2 ^ k) : f253_fitsTraces (znn s) (znn p) B = some (if fB w k p s = true then 1 else 0) := by
  have hk12 := hk.1
  have hp4 := pow_4096 hk12
  obtain ⟨d, hd, e6⟩ := hmo
  have zd : zi (w 6) = d := by rw [e6, zn_zi (by omega)]
  unfold f253_fitsTraces
  rw [hw, show f221_sumOf (znn s) 3 B = _ from sum_ref2 (f := 3) hw hk hn (by decide) (by omega), Option.bind_some]
  by_cases c1 : znn (wSum w 3 s k) = w 56
  case neg => rw [if_neg c1, if_neg (by unfold fB; simp [c1])]
  rw [if_pos c1, show f221_sumOf (znn s) 4 B = _ from sum_ref2 (f := 4) hw hk hn (by decide) (by omega), Option.bind_some]
  by_cases c2 : znn (wSum w 4 s k) = w 57
  case neg => rw [if_neg c2, if_neg (by unfold fB; simp [c2])]
  rw [if_pos c2, show f221_sumOf (znn s) 1 B = _ from sum_ref2 (f := 1) hw hk hn (by decide) (by omega), Option.bind_some]
  have bd := wSum_bd (f := 1) (s := s) hk hn (by decide)
  by_cases c3 : 24 < wSum w 1 s k
  · rw [if_pos (show (24 : Int32) < znn (wSum w 1 s k) by rw [zl24, zn_lt (by decide) (by omega)]; exact c3), if_neg (by unfold fB; simp [show ¬ wSum w 1 s k ≤ 24 by omega])]
  obtain ⟨b, eb, hbb⟩ := tog_ref (M := B) (p := p) hw hk (show s < 4096 by omega) hd e6
  rw [if_neg (show ¬ (24 : Int32) < znn (wSum w 1 s k) by rw [zl24, zn_lt (by decide) (by omega)]; exact c3), eb, Option.bind_some]
  rw [← zd] at hbb
  by_cases c4 : b = true
  · rw [if_pos c4, if_neg (by decide), if_pos]
    unfold fB
    simp [c1, c2, show wSum w 1 s k ≤ 24 by omega, togB_iff.mpr (hbb.mp c4)]
  · rw [if_neg c4, if_pos rfl, if_neg]
    unfold fB
    simp [show togB w k p s (zi (w 6)) = false from Bool.eq_false_iff.mpr (fun h => c4 (hbb.mpr (togB_iff.mp h)))]
