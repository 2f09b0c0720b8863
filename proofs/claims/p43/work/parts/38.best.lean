-- ===== PLAN: the best set, on both sides =====
theorem not_zn (a b : Nat) : znn a &&& (znn b ^^^ -1) = znn (a &&& (b ^^^ 4294967295)) := by
  rw [show (-1 : Int32) = znn 4294967295 from rfl, zn_xor, zn_and]
theorem tb_full {i : Nat} (h : i < 32) : (4294967295 : Nat).testBit i = true := by
  have : ∀ i : Fin 32, (4294967295 : Nat).testBit i.val = true := by decide
  exact this ⟨i, h⟩
theorem tb_not {a b i : Nat} (h : i < 32) : (a &&& (b ^^^ 4294967295)).testBit i = (a.testBit i && !b.testBit i) := by
  rw [Nat.testBit_and, Nat.testBit_xor, tb_full h]
  simp
theorem tb_lt {s k i : Nat} (hs : s < 2 ^ k) (h : s.testBit i = true) : i < k := by
  by_cases hi : i < k
  · exact hi
  · have : s < 2 ^ i := Nat.lt_of_lt_of_le hs (Nat.pow_le_pow_right (by decide) (by omega))
    rw [Nat.testBit_lt_two_pow this] at h
    cases h
theorem sub_of {s o : Nat} (h : ∀ i, s.testBit i = true → o.testBit i = true) : s &&& o = s := by
  apply Nat.eq_of_testBit_eq
  intro i
  rw [Nat.testBit_and]
  by_cases hs : s.testBit i = true
  · rw [hs, h i hs]; rfl
  · simp [hs]
theorem of_sub {s o i : Nat} (h : s &&& o = s) (hs : s.testBit i = true) : o.testBit i = true := by
  rw [← h, Nat.testBit_and] at hs
  simp at hs
  exact hs.2
theorem or_bit {s i j : Nat} : (s ||| 2 ^ i).testBit j = (s.testBit j || decide (i = j)) := by
  rw [Nat.testBit_or, Nat.testBit_two_pow]
theorem owned_cls {M : ZI} {w : Nat → Int32} {n k p h : Nat} (hi : wrkIs M 21 w k) (hk : wrkOk w n k) (hn : n ≤ 10) (hp : p < n) (hh : h ≤ 24) : ∃ o, o < 2 ^ k ∧ f41_ownedBy 21 (znn p) (znn h) M = some (znn o) ∧ ∀ i, o.testBit i = true ↔ i < k ∧ w (90 + 6 * i) = znn p ∧ zi (w (91 + 6 * i)) ≤ h := by
  have hk12 := hk.1
  have h52 := hk.2.1
  obtain ⟨r, h1, o, ho, rfl, h2⟩ := zloop (fun fu (a : Int32) c => f41_l5 21 (znn p) (znn h) M fu a c) k (fun i a => ∃ o, o < 2 ^ i ∧ a = znn o ∧ ∀ j, o.testBit j = true ↔ j < i ∧ w (90 + 6 * j) = znn p ∧ zi (w (91 + 6 * j)) ≤ h) (fun r => ∃ o, o < 2 ^ k ∧ r = znn o ∧ ∀ j, o.testBit j = true ↔ j < k ∧ w (90 + 6 * j) = znn p ∧ zi (w (91 + 6 * j)) ≤ h) (fun fu i a hik ha => by
      obtain ⟨o, ho, rfl, hb⟩ := ha
      have hz : zin (znn i) 12 = true := (zn_zin (by omega)).mpr (by omega)
      left
      (try dsimp only)
      rw [f41_l5, hi.1, h52, if_pos ((zn_lt (by omega) (by omega)).mpr hik), if_pos hz, if_pos hz, zn_zi (by omega), zadd1, show M (21 + 1) i = w (90 + 6 * i) from wrk_cell (t := 21) (f := 0) hi (by decide) hik, show M (21 + 2) i = w (91 + 6 * i) from wrk_cell (t := 21) (f := 1) hi (by decide) hik]
      obtain ⟨x, hx, ex⟩ := wrk_val hk hn (f := 1) (by decide) hik
      have ex : w (91 + 6 * i) = znn x := ex
      have keep : (w (90 + 6 * i) = znn p ∧ zi (w (91 + 6 * i)) ≤ h → False) → ∃ o, o < 2 ^ (i + 1) ∧ znn o = znn o ∧ ∀ j, o.testBit j = true ↔ j < i + 1 ∧ w (90 + 6 * j) = znn p ∧ zi (w (91 + 6 * j)) ≤ h := fun hf => ⟨o, by rw [Nat.pow_succ]; omega, rfl, fun j => by
        rw [hb j]
        constructor
        · exact fun hj => ⟨by omega, hj.2⟩
        · intro hj
          refine ⟨?_, hj.2⟩
          by_cases hji : j = i
          · subst hji; exact (hf hj.2).elim
          · omega⟩
      have keep2 : (w (90 + 6 * i) = znn p ∧ zi (w (91 + 6 * i)) ≤ h → False) → ∃ o2, o2 < 2 ^ (i + 1) ∧ znn o = znn o2 ∧ ∀ j, o2.testBit j = true ↔ j < i + 1 ∧ w (90 + 6 * j) = znn p ∧ zi (w (91 + 6 * j)) ≤ h := fun hf => ⟨o, by rw [Nat.pow_succ]; omega, rfl, fun j => by
        rw [hb j]
        constructor
        · exact fun hj => ⟨by omega, hj.2⟩
        · intro hj
          refine ⟨?_, hj.2⟩
          by_cases hji : j = i
          · subst hji; exact (hf hj.2).elim
          · omega⟩
      by_cases c1 : w (90 + 6 * i) = znn p
      · rw [if_pos c1, ex]
        by_cases c2 : znn h < znn x
        · rw [if_pos c2]
          rw [zn_lt (by omega) (by omega)] at c2
          refine ⟨znn o, keep2 (fun hf => ?_), rfl⟩
          rw [ex, zn_zi (by omega)] at hf
          omega
        · rw [if_neg c2]
          rw [zn_lt (by omega) (by omega)] at c2
          simp only [zlet]
          rw [zl1, zn_shl (by omega), zn_or]
          refine ⟨znn (o ||| 2 ^ i), ⟨o ||| 2 ^ i, or_pow_lt (by rw [Nat.pow_succ]; omega) (by omega), rfl, fun j => ?_⟩, rfl⟩
          rw [or_bit, Bool.or_eq_true, decide_eq_true_eq, hb j]
          constructor
          · rintro (hj | rfl)
            · exact ⟨by omega, hj.2⟩
            · exact ⟨by omega, c1, by rw [ex, zn_zi (by omega)]; omega⟩
          · intro hj
            by_cases hji : i = j
            · exact Or.inr hji
            · exact Or.inl ⟨by omega, hj.2⟩
      · rw [if_neg c1]
        exact ⟨znn o, keep2 (fun hf => c1 hf.1), rfl⟩) (fun fu a ha => by
      obtain ⟨o, ho, rfl, hb⟩ := ha
      refine ⟨znn o, ⟨o, ho, rfl, hb⟩, ?_⟩
      (try dsimp only)
      rw [f41_l5, hi.1, h52, if_neg (by rw [zn_lt (by omega) (by omega)]; omega)]) zfu 0 0 (by omega) (by rw [zfu_eq]; omega) ⟨0, by decide, rfl, fun j => by simp⟩
  have h1 : f41_l5 21 (znn p) (znn h) M zfu 0 0 = some (znn o) := h1
  refine ⟨o, ho, ?_, h2⟩
  rw [f41_ownedBy, h1]
  rfl
def pQual (w : Nat → Int32) (k p h d s : Nat) : Prop := (∀ i, s.testBit i = true → d.testBit i = false) ∧ wSum w 1 s k ≤ h ∧ wTog w k p s d
def pBet (w : Nat → Int32) (k s best : Nat) : Prop := wSum w 2 best k < wSum w 2 s k ∨ (wSum w 2 s k = wSum w 2 best k ∧ wSum w 1 s k < wSum w 1 best k)
/-- the best of the sets below m, told by what it is; x is that best set -/
def pBest (w : Nat → Int32) (k p h d : Nat) : Nat → Nat → Prop
  | 0, x => x = 0
  | s + 1, x => ∃ y, pBest w k p h d s y ∧ ((pQual w k p h d s ∧ pBet w k s y ∧ x = s) ∨ (¬ (pQual w k p h d s ∧ pBet w k s y) ∧ x = y))
theorem pBest_uniq {w : Nat → Int32} {k p h d : Nat} : ∀ {m x y : Nat}, pBest w k p h d m x → pBest w k p h d m y → x = y
  | 0, x, y, hx, hy => hx.trans hy.symm
  | m + 1, x, y, ⟨x', hx', hx⟩, ⟨y', hy', hy⟩ => by
    have := pBest_uniq hx' hy'
    subst this
    rcases hx with ⟨a, b, rfl⟩ | ⟨a, rfl⟩ <;> rcases hy with ⟨c, d, rfl⟩ | ⟨c, rfl⟩
    · rfl
    · exact absurd ⟨a, b⟩ c
    · exact absurd ⟨c, d⟩ a
    · rfl
theorem pBest_lt {w : Nat → Int32} {k p h d : Nat} : ∀ {m x : Nat}, pBest w k p h d m x → x < m ∨ x = 0
  | 0, x, hx => Or.inr hx
  | m + 1, x, ⟨x', hx', hx⟩ => by
    have := pBest_lt hx'
    rcases hx with ⟨-, -, rfl⟩ | ⟨-, rfl⟩ <;> omega
theorem pBest_qual {w : Nat → Int32} {k p h d : Nat} : ∀ {m x : Nat}, pBest w k p h d m x → x = 0 ∨ pQual w k p h d x
  | 0, x, hx => Or.inl hx
  | m + 1, x, ⟨x', hx', hx⟩ => by
    rcases hx with ⟨a, -, rfl⟩ | ⟨-, rfl⟩
    · exact Or.inr a
    · exact pBest_qual hx'
theorem pBest_skip {w : Nat → Int32} {k p h d m x : Nat} (hx : pBest w k p h d m x) : ∀ e, (∀ s, m ≤ s → s < m + e → ¬ pQual w k p h d s) → pBest w k p h d (m + e) x
  | 0, _ => hx
  | e + 1, hq => ⟨x, pBest_skip hx e (fun s h1 h2 => hq s h1 (by omega)), Or.inr ⟨fun hh => hq (m + e) (by omega) (by omega) hh.1, rfl⟩⟩
theorem wSum_0 {w : Nat → Int32} {f : Nat} : ∀ k, wSum w f 0 k = 0
  | 0 => rfl
  | k + 1 => by
    unfold wSum
    rw [wSum_0 k, if_neg (by simp)]
theorem pow_zn {k : Nat} (h : k ≤ 12) : zshl 1 (znn k) = znn (2 ^ k) := by
  rw [zl1]; exact zn_shl (by omega)
theorem pow_4096 {k : Nat} (h : k ≤ 12) : 2 ^ k ≤ 4096 := Nat.pow_le_pow_right (n := 2) (by decide) h
theorem and_0 {s d : Nat} : s &&& d = 0 ↔ ∀ i, s.testBit i = true → d.testBit i = false := by
  constructor
  · intro h i hs
    have := congrArg (fun x => x.testBit i) h
    simp only [Nat.testBit_and, hs, Bool.true_and, Nat.zero_testBit] at this
    exact this
  · intro h
    apply Nat.eq_of_testBit_eq
    intro i
    rw [Nat.testBit_and, Nat.zero_testBit]
    by_cases hs : s.testBit i = true
    · rw [hs, h i hs]; rfl
    · simp [hs]
theorem zgt0 {a b : Nat} (ha : a ≤ 2000) (hb : b ≤ 2000) : (0 < znn a - znn b ↔ b < a) ∧ (znn a - znn b = 0 ↔ a = b) := by
  have h1 : (znn a).toInt = a := zn_toInt (by omega)
  have h2 : (znn b).toInt = b := zn_toInt (by omega)
  have h3 : (znn a - znn b).toInt = (a : Int) - b := by
    rw [Int32.toInt_sub, h1, h2]
    apply Int.bmod_eq_of_le <;> omega
  constructor
  · rw [Int32.lt_iff_toInt_lt, h3]
    show (0 : Int) < _ ↔ _
    omega
  · rw [← Int32.toInt_inj, h3]
    show (_ : Int) = 0 ↔ _
    omega
theorem plan_ref {M : ZI} {w : Nat → Int32} {n k p h d : Nat} (hw : M 149 = w) (hk : wrkOk w n k) (hn : n ≤ 10) (hh : h ≤ 24) (hd : d < 4096) (h6 : w 6 = znn d) : ∃ x, pBest w k p h d (2 ^ k) x ∧ f220_planOf (znn p) (znn h) M = some (znn x) := by
  have hk12 := hk.1
  have h52 := hk.2.1
  have hp4 := pow_4096 hk12
  have hpos : 0 < 2 ^ k := Nat.two_pow_pos k
  obtain ⟨r, h1, x, hx, rfl⟩ := zloop (fun fu (a : Int32) c => f220_l5 (znn p) (znn h) M fu a c) (2 ^ k) (fun i a => 1 ≤ i ∧ ∃ x, pBest w k p h d i x ∧ a = znn x) (fun r => ∃ x, pBest w k p h d (2 ^ k) x ∧ r = znn x) (fun fu i a hik ha => by
      obtain ⟨hi1, x, hx, rfl⟩ := ha
      have hx4 : x < 4096 := by rcases pBest_lt hx with h | h <;> omega
      left
      (try dsimp only)
      rw [f220_l5, hw, h52, pow_zn hk12, if_pos ((zn_lt (by omega) (by omega)).mpr hik), h6, zn_and, zadd1]
      have stay : ¬ (pQual w k p h d i ∧ pBet w k i x) → ∃ y, pBest w k p h d (i + 1) y ∧ znn x = znn y := fun hno => ⟨x, ⟨x, hx, Or.inr ⟨hno, rfl⟩⟩, rfl⟩
      by_cases c1 : i &&& d = 0
      · have hid : znn (i &&& d) = 0 := by rw [c1]; rfl
        rw [if_pos hid, show (1 : Int32) = znn 1 from rfl, sum_ref2 hw hk hn (by decide) (by omega), sum_ref2 hw hk hn (by decide) hx4, show (2 : Int32) = znn 2 from rfl, sum_ref2 hw hk hn (by decide) (by omega), sum_ref2 hw hk hn (by decide) hx4]
        have b1 := wSum_bd (f := 1) (s := i) hk hn (by decide)
        have b2 := wSum_bd (f := 1) (s := x) hk hn (by decide)
        have b3 := wSum_bd (f := 2) (s := i) hk hn (by decide)
        have b4 := wSum_bd (f := 2) (s := x) hk hn (by decide)
        simp only [Option.bind_some]
        by_cases c2 : znn h < znn (wSum w 1 i k)
        · rw [if_pos c2]
          rw [zn_lt (by omega) (by omega)] at c2
          exact ⟨znn x, ⟨by omega, stay (fun hf => by have := hf.1.2.1; omega)⟩, rfl⟩
        · rw [if_neg c2]
          rw [zn_lt (by omega) (by omega)] at c2
          obtain ⟨b, hb, hbt⟩ := tog_ref (p := p) hw hk (show i < 4096 by omega) hd h6
          rw [hb]
          simp only [Option.bind_some]
          cases b with
          | false =>
            have : ¬ wTog w k p i d := fun ht => by have := hbt.mpr ht; cases this
            exact ⟨znn x, ⟨by omega, stay (fun hf => this hf.1.2.2)⟩, rfl⟩
          | true =>
            have htog := hbt.mp rfl
            have hq : pQual w k p h d i := ⟨and_0.mp c1, by omega, htog⟩
            have take : pBet w k i x → ∃ y, pBest w k p h d (i + 1) y ∧ znn i = znn y := fun hb => ⟨i, ⟨x, hx, Or.inl ⟨hq, hb, rfl⟩⟩, rfl⟩
            rw [if_neg (by decide)]
            simp only [zlet]
            obtain ⟨g1, g2⟩ := zgt0 (a := wSum w 2 i k) (b := wSum w 2 x k) (by omega) (by omega)
            by_cases c3 : wSum w 2 x k < wSum w 2 i k
            · rw [if_pos (g1.mpr c3)]
              exact ⟨znn i, ⟨by omega, take (Or.inl c3)⟩, rfl⟩
            · rw [if_neg (fun hf => c3 (g1.mp hf))]
              by_cases c4 : wSum w 2 i k = wSum w 2 x k
              · rw [if_pos (g2.mpr c4)]
                by_cases c5 : wSum w 1 i k < wSum w 1 x k
                · rw [if_pos ((zn_lt (by omega) (by omega)).mpr c5)]
                  exact ⟨znn i, ⟨by omega, take (Or.inr ⟨c4, c5⟩)⟩, rfl⟩
                · rw [if_neg (by rw [zn_lt (by omega) (by omega)]; exact c5)]
                  exact ⟨znn x, ⟨by omega, stay (fun hf => by rcases hf.2 with h | h <;> omega)⟩, rfl⟩
              · rw [if_neg (fun hf => c4 (g2.mp hf))]
                exact ⟨znn x, ⟨by omega, stay (fun hf => by rcases hf.2 with h | h <;> omega)⟩, rfl⟩
      · have hlt : i &&& d < 4096 := Nat.lt_of_le_of_lt Nat.and_le_left (by omega)
        rw [if_neg (show ¬ znn (i &&& d) = 0 by rw [zl0, zn_eq (by omega) (by decide)]; exact c1)]
        exact ⟨znn x, ⟨by omega, stay (fun hf => c1 (and_0.mpr hf.1.1))⟩, rfl⟩) (fun fu a ha => by
      obtain ⟨hi1, x, hx, rfl⟩ := ha
      refine ⟨znn x, ⟨x, hx, rfl⟩, ?_⟩
      (try dsimp only)
      rw [f220_l5, hw, h52, pow_zn hk12, if_neg (by rw [zn_lt (by omega) (by omega)]; omega)]) zfu 1 0 (by omega) (by rw [zfu_eq]; omega) ⟨by omega, 0, ⟨0, rfl, by
        by_cases hc : pQual w k p h d 0 ∧ pBet w k 0 0
        · exact Or.inl ⟨hc.1, hc.2, rfl⟩
        · exact Or.inr ⟨hc, rfl⟩⟩, rfl⟩
  refine ⟨x, hx, ?_⟩
  have h1 : f220_l5 (znn p) (znn h) M zfu 0 1 = some (znn x) := h1
  rw [f220_planOf, h1]
  rfl
