-- ===== PLAN: the class's way through the parts of what is open =====
theorem qual_sub {w : Nat → Int32} {k p h d s o : Nat} (ho : ∀ i, o.testBit i = true ↔ (i < k ∧ w (90 + 6 * i) = znn p ∧ zi (w (91 + 6 * i)) ≤ h) ∧ d.testBit i = false) (hs : s < 2 ^ k) (hq : pQual w k p h d s) : s &&& o = s := by
  refine sub_of fun i hi => ?_
  have hik := tb_lt hs hi
  refine (ho i).mpr ⟨⟨hik, (hq.2.2 i hik hi).1, ?_⟩, hq.1 i hi⟩
  have := wSum_ge (w := w) (f := 1) k hik hi
  have h2 := hq.2.1
  have e : w (90 + 1 + 6 * i) = w (91 + 6 * i) := rfl
  rw [e] at this
  omega
theorem sub_qual {w : Nat → Int32} {k p h d s o : Nat} (ho : ∀ i, o.testBit i = true ↔ (i < k ∧ w (90 + 6 * i) = znn p ∧ zi (w (91 + 6 * i)) ≤ h) ∧ d.testBit i = false) (hs : s &&& o = s) : pQual w k p h d s ↔ wSum w 1 s k ≤ h ∧ ∀ i, i < k → s.testBit i = true → wAft w s d i := by
  constructor
  · exact fun hq => ⟨hq.2.1, fun i hi hb => (hq.2.2 i hi hb).2⟩
  · intro hq
    refine ⟨fun i hi => ((ho i).mp (of_sub hs hi)).2, hq.1, fun i hi hb => ⟨((ho i).mp (of_sub hs hb)).1.2.1, hq.2 i hi hb⟩⟩
theorem plan_cls {M : ZI} {w : Nat → Int32} {n k p h d : Nat} (hi : wrkIs M 21 w k) (hk : wrkOk w n k) (hn : n ≤ 10) (hp : p < n) (hh : h ≤ 24) (hd : d < 4096) : ∃ x, pBest w k p h d (2 ^ k) x ∧ f40_bestSet 21 (znn p) (znn h) (znn d) M = some (znn x) := by
  have hk12 := hk.1
  have h52 := hk.2.1
  have hp4 := pow_4096 hk12
  obtain ⟨o1, ho1, e1, hb1⟩ := owned_cls hi hk hn hp hh
  have ho2 : (o1 &&& (d ^^^ 4294967295)) < 2 ^ k := Nat.lt_of_le_of_lt Nat.and_le_left ho1
  have ho : ∀ i, (o1 &&& (d ^^^ 4294967295)).testBit i = true ↔ (i < k ∧ w (90 + 6 * i) = znn p ∧ zi (w (91 + 6 * i)) ≤ h) ∧ d.testBit i = false := by
    intro i
    by_cases hi32 : i < 32
    · rw [tb_not hi32, Bool.and_eq_true, hb1 i]
      simp
    · constructor
      · intro hc
        exact absurd (tb_lt ho2 hc) (by omega)
      · intro hc
        omega
  unfold f40_bestSet
  rw [e1]
  simp only [Option.bind_some, zlet]
  rw [not_zn]
  generalize (o1 &&& (d ^^^ 4294967295)) = o at *
  have done : ∀ x s, s = o → pBest w k p h d (s + 1) x → pBest w k p h d (2 ^ k) x := by
    intro x s hs hx
    subst hs
    have := pBest_skip hx (2 ^ k - (s + 1)) (fun s' h1 h2 hq => by
      have := qual_sub ho (show s' < 2 ^ k by omega) hq
      have : s' ≤ s := by rw [← this]; exact Nat.and_le_right
      omega)
    rwa [show s + 1 + (2 ^ k - (s + 1)) = 2 ^ k by omega] at this
  obtain ⟨r, h1, x, hx, rfl⟩ := zloop (fun fu (a : Int32 × Int32 × Int32 × Int32) c => f40_l27 21 (znn h) (znn d) M (znn o) fu a.1 a.2.1 a.2.2.1 a.2.2.2 c) 4096 (fun i a => ∃ x s, a = (znn x, znn (wSum w 2 x k), znn (wSum w 1 x k), znn s) ∧ s &&& o = s ∧ i ≤ s + 1 ∧ x < 4096 ∧ pBest w k p h d (s + 1) x) (fun r => ∃ x, pBest w k p h d (2 ^ k) x ∧ r = znn x) (fun fu i a hik ha => by
      obtain ⟨x, s, rfl, hs, his, hx4, hx⟩ := ha
      (try dsimp only)
      obtain ⟨y, ey, hy1, hy2, hy3, hy4⟩ := next_part (show o < 4096 by omega) hs
      rw [f40_l27, if_pos (show znn i < 4096 from (zn_lt (by omega) (by decide)).mpr hik)]
      simp only [zlet]
      rw [ey, zadd1]
      by_cases hso : s = o
      · rw [if_pos (show znn y = 0 by rw [hy3 hso]; rfl)]
        right
        exact ⟨znn x, ⟨x, done x s hso hx, rfl⟩, rfl⟩
      · obtain ⟨hy5, hy6⟩ := hy4 hso
        have hyk : y < 2 ^ k := Nat.lt_of_le_of_lt (by rw [← hy1]; exact Nat.and_le_right) ho2
        rw [if_neg (show ¬ znn y = 0 by rw [zl0, zn_eq (by omega) (by decide)]; omega), show f42_sum 21 (znn y) (21 + 2) M = some (znn (wSum w 1 y k)) from sum_cls hi hk hn (f := 1) (by decide) hy2, show f42_sum 21 (znn y) (21 + 3) M = some (znn (wSum w 2 y k)) from sum_cls hi hk hn (f := 2) (by decide) hy2]
        simp only [Option.bind_some]
        have b1 := wSum_bd (f := 1) (s := y) hk hn (by decide)
        have b2 := wSum_bd (f := 1) (s := x) hk hn (by decide)
        have b3 := wSum_bd (f := 2) (s := y) hk hn (by decide)
        have b4 := wSum_bd (f := 2) (s := x) hk hn (by decide)
        have hxy : pBest w k p h d y x := by
          have := pBest_skip hx (y - (s + 1)) (fun s' h1 h2 hq => by
            have := hy6 s' (qual_sub ho (show s' < 2 ^ k by omega) hq) (by omega)
            omega)
          rwa [show s + 1 + (y - (s + 1)) = y by omega] at this
        obtain ⟨b, hb, hbw⟩ := whole_cls (s := y) (d := d) hi hk hy2 hd
        rw [hb]
        simp only [Option.bind_some]
        left
        have stay : ¬ (pQual w k p h d y ∧ pBet w k y x) → ∃ x' s', (znn x, znn (wSum w 2 x k), znn (wSum w 1 x k), znn y) = (znn x', znn (wSum w 2 x' k), znn (wSum w 1 x' k), znn s') ∧ s' &&& o = s' ∧ i + 1 ≤ s' + 1 ∧ x' < 4096 ∧ pBest w k p h d (s' + 1) x' := fun hno => ⟨x, y, rfl, hy1, by omega, hx4, ⟨x, hxy, Or.inr ⟨hno, rfl⟩⟩⟩
        by_cases c1 : znn h < znn (wSum w 1 y k)
        · rw [if_pos c1]
          rw [zn_lt (by omega) (by omega)] at c1
          simp only [Option.bind_some]
          rw [if_neg (show ¬ znn (wSum w 2 x k) < -1 by
            intro hf
            have := neg_lt_zn (k := wSum w 2 x k) (by omega)
            grind), if_neg (zn_ne_neg' (by omega))]
          exact ⟨_, stay (fun hf => by have := hf.1.2.1; omega), rfl⟩
        · rw [if_neg c1]
          rw [zn_lt (by omega) (by omega)] at c1
          simp only [Option.bind_some]
          have tk : ∀ bet : Prop, (bet ↔ pBet w k y x) → bet → ∃ a', (∃ x' s', a' = (znn x', znn (wSum w 2 x' k), znn (wSum w 1 x' k), znn s') ∧ s' &&& o = s' ∧ i + 1 ≤ s' + 1 ∧ x' < 4096 ∧ pBest w k p h d (s' + 1) x') ∧ (if (if b = true then (1 : Int32) else 0) = 0 then f40_l27 21 (znn h) (znn d) M (znn o) fu (znn x) (znn (wSum w 2 x k)) (znn (wSum w 1 x k)) (znn y) (znn (i + 1)) else f40_l27 21 (znn h) (znn d) M (znn o) fu (znn y) (znn (wSum w 2 y k)) (znn (wSum w 1 y k)) (znn y) (znn (i + 1))) = f40_l27 21 (znn h) (znn d) M (znn o) fu a'.1 a'.2.1 a'.2.2.1 a'.2.2.2 (znn (i + 1)) := by
            intro bet hbet hbe
            cases b with
            | false =>
              rw [if_pos (by decide)]
              exact ⟨_, stay (fun hf => by
                have := hbw.mpr ((sub_qual ho hy1).mp hf.1).2
                cases this), rfl⟩
            | true =>
              rw [if_pos rfl, if_neg (by decide)]
              refine ⟨(znn y, znn (wSum w 2 y k), znn (wSum w 1 y k), znn y), ⟨y, y, rfl, hy1, by omega, hy2, ⟨x, hxy, Or.inl ⟨(sub_qual ho hy1).mpr ⟨by omega, hbw.mp rfl⟩, hbet.mp hbe, rfl⟩⟩⟩, rfl⟩
          by_cases c2 : wSum w 2 x k < wSum w 2 y k
          · rw [if_pos ((zn_lt (by omega) (by omega)).mpr c2)]
            exact tk True ⟨fun _ => Or.inl c2, fun _ => trivial⟩ trivial
          · rw [if_neg (by rw [zn_lt (by omega) (by omega)]; exact c2)]
            by_cases c3 : wSum w 2 y k = wSum w 2 x k
            · rw [if_pos (by rw [c3])]
              by_cases c4 : wSum w 1 y k < wSum w 1 x k
              · rw [if_pos ((zn_lt (by omega) (by omega)).mpr c4)]
                exact tk True ⟨fun _ => Or.inr ⟨c3, c4⟩, fun _ => trivial⟩ trivial
              · rw [if_neg (by rw [zn_lt (by omega) (by omega)]; exact c4)]
                exact ⟨_, stay (fun hf => by rcases hf.2 with h | h <;> omega), rfl⟩
            · rw [if_neg (by rw [zn_eq (by omega) (by omega)]; exact c3)]
              exact ⟨_, stay (fun hf => by rcases hf.2 with h | h <;> omega), rfl⟩) (fun fu a ha => by
      obtain ⟨x, s, rfl, hs, his, hx4, hx⟩ := ha
      have hle : s ≤ o := by rw [← hs]; exact Nat.and_le_right
      refine ⟨znn x, ⟨x, done x s (by omega) hx, rfl⟩, ?_⟩
      (try dsimp only)
      rw [f40_l27, if_neg (by decide)]) zfu 1 (0, 0, 0, 0) (by omega) (by rw [zfu_eq]; omega) ⟨0, 0, by rw [wSum_0, wSum_0]; rfl, by simp, by omega, by omega, ⟨0, rfl, by
        by_cases hc : pQual w k p h d 0 ∧ pBet w k 0 0
        · exact Or.inl ⟨hc.1, hc.2, rfl⟩
        · exact Or.inr ⟨hc, rfl⟩⟩⟩
  refine ⟨x, hx, ?_⟩
  have h1 : f40_l27 21 (znn h) (znn d) M (znn o) zfu 0 0 0 0 1 = some (znn x) := h1
  rw [h1]
  rfl
