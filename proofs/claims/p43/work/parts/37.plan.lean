-- ===== WORKS: sums, what each is after, PLAN, on both sides =====
theorem and_bit (a b c d : Nat) (hc : c < 2) (hd : d < 2) : (2 * a + c) &&& (2 * b + d) = 2 * (a &&& b) + c * d := by
  apply Nat.eq_of_testBit_eq
  intro i
  have hcd : c * d < 2 := by
    rcases (show c = 0 ∨ c = 1 by omega) with rfl | rfl <;> omega
  cases i with
  | zero =>
    simp only [Nat.testBit_and, Nat.testBit_zero]
    rcases (show c = 0 ∨ c = 1 by omega) with rfl | rfl <;> rcases (show d = 0 ∨ d = 1 by omega) with rfl | rfl <;> simp <;> omega
  | succ i =>
    rw [Nat.testBit_and, Nat.testBit_succ, Nat.testBit_succ, Nat.testBit_succ]
    rw [show (2 * a + c) / 2 = a by omega, show (2 * b + d) / 2 = b by omega, show (2 * (a &&& b) + c * d) / 2 = a &&& b by omega, Nat.testBit_and]
theorem bit_of (x : Nat) : ∃ a c, c < 2 ∧ x = 2 * a + c := ⟨x / 2, x % 2, Nat.mod_lt _ (by decide), by omega⟩
theorem sub_full : ∀ (k o x : Nat), o < 2 ^ k → x &&& o = x → (x + 2 ^ k - 1 - o) &&& o = x
  | 0, o, x, ho, hx => by
    have : o = 0 := by simpa using ho
    subst this
    have : x = 0 := by rw [← hx]; simp
    subst this
    rfl
  | k + 1, o, x, ho, hx => by
    obtain ⟨o', d, hd, rfl⟩ := bit_of o
    obtain ⟨x', c, hc, rfl⟩ := bit_of x
    rw [and_bit _ _ _ _ hc hd] at hx
    have hcd : c * d < 2 := by rcases (show c = 0 ∨ c = 1 by omega) with rfl | rfl <;> omega
    have hx' : x' &&& o' = x' := by omega
    have hle : x' ≤ o' := by rw [← hx']; exact Nat.and_le_right
    have ih := sub_full k o' x' (by rw [Nat.pow_succ] at ho; omega) hx'
    rw [Nat.pow_succ] at ho ⊢
    have hc1 : c ≤ d := by
      rcases (show c = 0 ∨ c = 1 by omega) with rfl | rfl
      · omega
      · omega
    have e : 2 * x' + c + 2 ^ k * 2 - 1 - (2 * o' + d) = 2 * (x' + 2 ^ k - 1 - o') + (c + 1 - d) := by omega
    rw [e, and_bit _ _ _ _ (by omega) hd, ih]
    rcases (show c = 0 ∨ c = 1 by omega) with rfl | rfl <;> rcases (show d = 0 ∨ d = 1 by omega) with rfl | rfl <;> omega
theorem sub_next : ∀ (k o x : Nat), o < 2 ^ k → x &&& o = x → x ≠ o → x < ((x + 2 ^ k - o) &&& o) ∧ ∀ s, s &&& o = s → x < s → ((x + 2 ^ k - o) &&& o) ≤ s
  | 0, o, x, ho, hx, hne => by
    have : o = 0 := by simpa using ho
    subst this
    have : x = 0 := by rw [← hx]; simp
    exact absurd this hne
  | k + 1, o, x, ho, hx, hne => by
    obtain ⟨o', d, hd, rfl⟩ := bit_of o
    obtain ⟨x', c, hc, rfl⟩ := bit_of x
    rw [and_bit _ _ _ _ hc hd] at hx
    have hcd : c * d < 2 := by rcases (show c = 0 ∨ c = 1 by omega) with rfl | rfl <;> omega
    have hx' : x' &&& o' = x' := by omega
    have hle : x' ≤ o' := by rw [← hx']; exact Nat.and_le_right
    have ho' : o' < 2 ^ k := by rw [Nat.pow_succ] at ho; omega
    have hsub : ∀ s' e, e < 2 → (2 * s' + e) &&& (2 * o' + d) = 2 * s' + e → s' &&& o' = s' := by
      intro s' e he h
      rw [and_bit _ _ _ _ he hd] at h
      have : e * d < 2 := by rcases (show e = 0 ∨ e = 1 by omega) with rfl | rfl <;> omega
      omega
    have hc1 : c ≤ d := by
      rcases (show c = 0 ∨ c = 1 by omega) with rfl | rfl
      · omega
      · omega
    by_cases h : c = d
    · subst h
      have hne' : x' ≠ o' := by omega
      obtain ⟨i1, i2⟩ := sub_next k o' x' ho' hx' hne'
      have e : 2 * x' + c + 2 ^ (k + 1) - (2 * o' + c) = 2 * (x' + 2 ^ k - o') + 0 := by rw [Nat.pow_succ]; omega
      rw [e, and_bit _ _ _ _ (by omega) hd]
      refine ⟨by omega, fun s hs hxs => ?_⟩
      obtain ⟨s', e, he, rfl⟩ := bit_of s
      have := hsub s' e he hs
      have hes : e ≤ c := by
        rw [and_bit _ _ _ _ he hd] at hs
        have : e * c < 2 := by rcases (show e = 0 ∨ e = 1 by omega) with rfl | rfl <;> omega
        rcases (show e = 0 ∨ e = 1 by omega) with rfl | rfl
        · omega
        · omega
      have := i2 s' this (by omega)
      omega
    · obtain rfl : c = 0 := by omega
      obtain rfl : d = 1 := by omega
      have e : 2 * x' + 0 + 2 ^ (k + 1) - (2 * o' + 1) = 2 * (x' + 2 ^ k - 1 - o') + 1 := by rw [Nat.pow_succ]; omega
      rw [e, and_bit _ _ _ _ (by omega) hd, sub_full k o' x' ho' hx']
      exact ⟨by omega, fun s hs hxs => by omega⟩
/-- the next greater part of o behind x, as the class reckons it -/
theorem next_part {o x : Nat} (ho : o < 4096) (hx : x &&& o = x) : ∃ y, (znn x - znn o) &&& znn o = znn y ∧ y &&& o = y ∧ y < 4096 ∧ (x = o → y = 0) ∧ (x ≠ o → x < y ∧ ∀ s, s &&& o = s → x < s → y ≤ s) := by
  have hle : x ≤ o := by rw [← hx]; exact Nat.and_le_right
  have e : znn x - znn o = znn (x + 2 ^ 32 - o) := by
    apply Int32.toBitVec_inj.1
    show BitVec.ofNat 32 x - BitVec.ofNat 32 o = BitVec.ofNat 32 (x + 2 ^ 32 - o)
    apply BitVec.eq_of_toNat_eq
    simp only [BitVec.toNat_sub, BitVec.toNat_ofNat]
    omega
  refine ⟨(x + 2 ^ 32 - o) &&& o, by rw [e, zn_and], by rw [Nat.and_assoc, Nat.and_self], Nat.lt_of_le_of_lt Nat.and_le_right ho, ?_, sub_next 32 o x (by omega) hx⟩
  rintro rfl
  rw [Nat.add_sub_cancel_left]
  apply Nat.eq_of_testBit_eq
  intro i
  rw [Nat.testBit_and, Nat.testBit_two_pow]
  by_cases h : 32 = i
  · subst h
    rw [Nat.testBit_lt_two_pow (Nat.lt_of_lt_of_le ho (by decide))]
    simp
  · simp [h]
def wSum (w : Nat → Int32) (f s : Nat) : Nat → Nat
  | 0 => 0
  | m + 1 => wSum w f s m + (if s.testBit m = true then zi (w (90 + f + 6 * m)) else 0)
theorem wSum_le {w : Nat → Int32} {f s k : Nat} (h : ∀ i, i < k → zi (w (90 + f + 6 * i)) ≤ 99) : ∀ m, m ≤ k → wSum w f s m ≤ 99 * m
  | 0, _ => Nat.le_refl _
  | m + 1, hm => by
    have := wSum_le (w := w) (f := f) (s := s) h m (by omega)
    have := h m (by omega)
    unfold wSum
    split <;> omega
theorem wSum_ge {w : Nat → Int32} {f s i : Nat} : ∀ m, i < m → s.testBit i = true → zi (w (90 + f + 6 * i)) ≤ wSum w f s m
  | m + 1, hm, hs => by
    unfold wSum
    by_cases h : i = m
    · subst h
      rw [if_pos hs]; omega
    · have := wSum_ge (w := w) (f := f) m (by omega) hs
      omega
theorem wrk_cell {M : ZI} {w : Nat → Int32} {t k f i : Nat} (h : wrkIs M t w k) (hf : f < 6) (hi : i < k) : M (t + 1 + f) i = w (90 + f + 6 * i) := by
  obtain ⟨h1, h2, h3, h4, h5, h6⟩ := h.2 i hi
  have hf : f = 0 ∨ f = 1 ∨ f = 2 ∨ f = 3 ∨ f = 4 ∨ f = 5 := by omega
  rcases hf with rfl | rfl | rfl | rfl | rfl | rfl
  · exact h1
  · exact h2
  · exact h3
  · exact h4
  · exact h5
  · exact h6
theorem wrk_val {w : Nat → Int32} {n k f i : Nat} (h : wrkOk w n k) (hn : n ≤ 10) (hf : f < 5) (hi : i < k) : ∃ x, x ≤ 99 ∧ w (90 + f + 6 * i) = znn x := by
  obtain ⟨⟨o, h1, e1⟩, ⟨a, -, h2, e2⟩, ⟨b, h3, e3⟩, ⟨c, h4, e4⟩, ⟨d, h5, e5⟩, -⟩ := h.2.2 i hi
  have hf : f = 0 ∨ f = 1 ∨ f = 2 ∨ f = 3 ∨ f = 4 := by omega
  rcases hf with rfl | rfl | rfl | rfl | rfl
  · exact ⟨o, by omega, e1⟩
  · exact ⟨a, by omega, e2⟩
  · exact ⟨b, by omega, e3⟩
  · exact ⟨c, by omega, e4⟩
  · exact ⟨d, by omega, e5⟩
theorem wSum_bd {w : Nat → Int32} {n k f s : Nat} (h : wrkOk w n k) (hn : n ≤ 10) (hf : f < 5) : wSum w f s k ≤ 1188 := by
  have := wSum_le (w := w) (f := f) (s := s) (k := k) (fun i hi => by
    obtain ⟨x, hx, e⟩ := wrk_val h hn hf hi
    rw [e, zn_zi (by omega)]
    exact hx) k (Nat.le_refl _)
  have := h.1
  omega
theorem zal_wrk {f : Nat} (hf : f < 6) : zal (22 + f) = 12 := by
  have hf : f = 0 ∨ f = 1 ∨ f = 2 ∨ f = 3 ∨ f = 4 ∨ f = 5 := by omega
  rcases hf with rfl | rfl | rfl | rfl | rfl | rfl <;> rfl
theorem sum_cls {M : ZI} {w : Nat → Int32} {n k f s : Nat} (h : wrkIs M 21 w k) (hk : wrkOk w n k) (hn : n ≤ 10) (hf : f < 5) (hs : s < 4096) : f42_sum 21 (znn s) (22 + f) M = some (znn (wSum w f s k)) := by
  have hk12 := hk.1
  have h52 := hk.2.1
  obtain ⟨r, h1, h2⟩ := zloop (fun fu (a : Int32) c => f42_l5 21 (znn s) (22 + f) M fu a c) k (fun i a => a = znn (wSum w f s i)) (fun r => r = znn (wSum w f s k)) (fun fu i a hi ha => by
      subst ha
      left
      refine ⟨_, rfl, ?_⟩
      (try dsimp only)
      rw [f42_l5, h.1, h52, if_pos ((zn_lt (by omega) (by omega)).mpr hi), zal_wrk (by omega), show Int32.ofNat 12 = znn 12 from rfl, if_pos ((zn_lt (by omega) (by omega)).mpr (by omega)), isIn_zn hs (by omega), if_pos ((zn_zin (by omega)).mpr (by omega)), zn_zi (by omega), zadd1]
      simp only [Option.bind_some, zlet]
      obtain ⟨x, hx, e⟩ := wrk_val hk hn hf hi
      rw [wrk_cell (t := 21) h (by omega) hi]
      by_cases hb : s.testBit i = true
      · simp only [wSum, if_pos hb]
        rw [if_neg (by decide), e, zn_add, zn_zi (by omega)]
      · simp only [wSum, if_neg hb, Nat.add_zero]
        rw [if_pos trivial]) (fun fu a ha => by
      subst ha
      refine ⟨_, rfl, ?_⟩
      (try dsimp only)
      rw [f42_l5, h.1, h52, if_neg (by rw [zn_lt (by omega) (by omega)]; omega)]) zfu 0 0 (by omega) (by rw [zfu_eq]; omega) rfl
  have h1 : f42_l5 21 (znn s) (22 + f) M zfu 0 0 = some r := h1
  rw [f42_sum, h1, h2]
  rfl
theorem ofWork_eq {M : ZI} {i f : Nat} (hi : i < 12) (hf : f < 6) : f222_ofWork (znn i) (znn f) M = some (M 149 (90 + f + 6 * i)) := by
  unfold f222_ofWork
  rw [zl90, zl6, zn_mul, zn_add, zn_add, if_pos ((zn_zin (by omega)).mpr (by omega)), zn_zi (by omega)]
  congr 2; omega
theorem sum_ref2 {M : ZI} {w : Nat → Int32} {n k f s : Nat} (hw : M 149 = w) (hk : wrkOk w n k) (hn : n ≤ 10) (hf : f < 5) (hs : s < 4096) : f221_sumOf (znn s) (znn f) M = some (znn (wSum w f s k)) := by
  have hk12 := hk.1
  have h52 := hk.2.1
  obtain ⟨r, h1, h2⟩ := zloop (fun fu (a : Int32) c => f221_l5 (znn s) (znn f) M fu a c) k (fun i a => a = znn (wSum w f s i)) (fun r => r = znn (wSum w f s k)) (fun fu i a hi ha => by
      subst ha
      left
      refine ⟨_, rfl, ?_⟩
      (try dsimp only)
      rw [f221_l5, hw, h52, if_pos ((zn_lt (by omega) (by omega)).mpr hi), zbit hs (by omega), ofWork_eq (by omega) (by omega), zadd1, hw]
      simp only [Option.bind_some, zlet]
      obtain ⟨x, hx, e⟩ := wrk_val hk hn hf hi
      by_cases hb : s.testBit i = true
      · simp only [wSum, if_pos hb]
        rw [if_pos trivial, e, zn_add, zn_zi (by omega)]
      · simp only [wSum, if_neg hb, Nat.add_zero]
        rw [if_neg (by decide), Int32.add_zero]) (fun fu a ha => by
      subst ha
      refine ⟨_, rfl, ?_⟩
      (try dsimp only)
      rw [f221_l5, hw, h52, if_neg (by rw [zn_lt (by omega) (by omega)]; omega)]) zfu 0 0 (by omega) (by rw [zfu_eq]; omega) rfl
  have h1 : f221_l5 (znn s) (znn f) M zfu 0 0 = some r := h1
  rw [f221_sumOf, h1, h2]
  rfl
/-- what WORK i is after is in s or done -/
def wAft (w : Nat → Int32) (s d i : Nat) : Prop := w (95 + 6 * i) = -1 ∨ s.testBit (zi (w (95 + 6 * i))) = true ∨ d.testBit (zi (w (95 + 6 * i))) = true
theorem whole_cls {M : ZI} {w : Nat → Int32} {n k s d : Nat} (h : wrkIs M 21 w k) (hk : wrkOk w n k) (hs : s < 4096) (hd : d < 4096) : ∃ b : Bool, f43_isWhole 21 (znn s) (znn d) M = some (if b = true then 1 else 0) ∧ (b = true ↔ ∀ i, i < k → s.testBit i = true → wAft w s d i) := by
  have hk12 := hk.1
  have h52 := hk.2.1
  have hsd : s ||| d < 4096 := Nat.or_lt_two_pow (n := 12) hs hd
  obtain ⟨r, h1, h2⟩ := zloop (fun fu (_ : Unit) c => f43_l2 21 (znn s) (znn d) M fu c) k (fun i _ => ∀ j, j < i → s.testBit j = true → wAft w s d j) (fun r => (r = 1 ∧ ∀ i, i < k → s.testBit i = true → wAft w s d i) ∨ (r = 0 ∧ ¬ ∀ i, i < k → s.testBit i = true → wAft w s d i)) (fun fu i a hi ha => by
      (try dsimp only)
      have hz : zin (znn i) 12 = true := (zn_zin (by omega)).mpr (by omega)
      rw [f43_l2, h.1, h52, if_pos ((zn_lt (by omega) (by omega)).mpr hi), isIn_zn hs (by omega), if_pos hz, if_pos hz, zn_zi (by omega), zadd1, zn_or, show M (21 + 6) i = w (95 + 6 * i) from wrk_cell (t := 21) (f := 5) h (by decide) hi]
      simp only [Option.bind_some]
      by_cases hb : s.testBit i = true
      · rw [if_pos hb, if_neg (by decide)]
        obtain ⟨-, -, -, -, -, haf⟩ := hk.2.2 i hi
        rcases haf with haf | ⟨j, hj, haf, -⟩
        · rw [if_pos haf]
          left
          refine ⟨(), fun j hj hsj => ?_, rfl⟩
          by_cases hji : j = i
          · subst hji; exact Or.inl haf
          · exact ha j (by omega) hsj
        · rw [haf, if_neg (zn_ne_neg (by omega)), isIn_zn hsd (by omega)]
          simp only [Option.bind_some]
          rw [Nat.testBit_or]
          by_cases hc : (s.testBit j || d.testBit j) = true
          · rw [if_pos hc, if_neg (by decide)]
            left
            refine ⟨(), fun j' hj' hsj => ?_, rfl⟩
            by_cases hji : j' = i
            · subst hji
              right
              rw [haf, zn_zi (by omega)]
              simpa using hc
            · exact ha j' (by omega) hsj
          · rw [if_neg hc, if_pos rfl]
            right
            refine ⟨0, Or.inr ⟨rfl, fun hall => ?_⟩, rfl⟩
            rcases hall i hi hb with h3 | h3
            · rw [haf] at h3; exact zn_ne_neg (by omega) h3
            · rw [haf, zn_zi (by omega)] at h3
              exact hc (by simpa using h3)
      · rw [if_neg hb, if_pos rfl]
        left
        refine ⟨(), fun j hj hsj => ?_, rfl⟩
        by_cases hji : j = i
        · subst hji; exact absurd hsj hb
        · exact ha j (by omega) hsj) (fun fu a ha => by
      (try dsimp only)
      rw [f43_l2, h.1, h52, if_neg (by rw [zn_lt (by omega) (by omega)]; omega)]
      exact ⟨1, Or.inl ⟨rfl, ha⟩, rfl⟩) zfu 0 () (by omega) (by rw [zfu_eq]; omega) (fun j hj => by omega)
  have h1 : f43_l2 21 (znn s) (znn d) M zfu 0 = some r := h1
  rw [f43_isWhole, h1]
  rcases h2 with ⟨rfl, h2⟩ | ⟨rfl, h2⟩
  · exact ⟨true, rfl, by simpa using h2⟩
  · exact ⟨false, rfl, by simpa using h2⟩
def wTog (w : Nat → Int32) (k p s d : Nat) : Prop := ∀ i, i < k → s.testBit i = true → w (90 + 6 * i) = znn p ∧ wAft w s d i
theorem tog_ref {M : ZI} {w : Nat → Int32} {n k s d p : Nat} (hw : M 149 = w) (hk : wrkOk w n k) (hs : s < 4096) (hd : d < 4096) (h6 : w 6 = znn d) : ∃ b : Bool, f223_goTogether (znn s) (znn p) M = some (if b = true then 1 else 0) ∧ (b = true ↔ wTog w k p s d) := by
  have hk12 := hk.1
  have h52 := hk.2.1
  obtain ⟨r, h1, h2⟩ := zloop (fun fu (_ : Unit) c => f223_l2 (znn s) (znn p) M fu c) k (fun i _ => ∀ j, j < i → s.testBit j = true → w (90 + 6 * j) = znn p ∧ wAft w s d j) (fun r => (r = 1 ∧ wTog w k p s d) ∨ (r = 0 ∧ ¬ wTog w k p s d)) (fun fu i a hi ha => by
      (try dsimp only)
      rw [f223_l2, hw, h52, if_pos ((zn_lt (by omega) (by omega)).mpr hi), zbit hs (by omega), show (5 : Int32) = znn 5 from rfl, ofWork_eq (by omega) (by omega), show (0 : Int32) = znn 0 from rfl, ofWork_eq (by omega) (by omega), zadd1, hw]
      simp only [Option.bind_some]
      rw [show w (90 + 5 + 6 * i) = w (95 + 6 * i) from rfl, show w (90 + 0 + 6 * i) = w (90 + 6 * i) from rfl]
      by_cases hb : s.testBit i = true
      · rw [if_pos hb, if_neg (by decide)]
        by_cases hp : w (90 + 6 * i) = znn p
        · rw [if_pos hp]
          obtain ⟨-, -, -, -, -, haf⟩ := hk.2.2 i hi
          rcases haf with haf | ⟨j, hj, haf, -⟩
          · rw [if_pos haf]
            left
            refine ⟨(), fun j hj hsj => ?_, rfl⟩
            by_cases hji : j = i
            · subst hji; exact ⟨hp, Or.inl haf⟩
            · exact ha j (by omega) hsj
          · rw [haf, if_neg (zn_ne_neg (by omega))]
            have hdn : f224_isDone (znn j) M = some (if d.testBit j = true then 1 else 0) := by
              unfold f224_isDone
              rw [hw, h6, zbit hd (by omega)]
              split <;> rfl
            rw [hdn, zbit hs (by omega)]
            simp only [Option.bind_some]
            by_cases hc : d.testBit j = true
            · rw [if_pos hc, if_neg (by decide)]
              left
              refine ⟨(), fun j' hj' hsj => ?_, rfl⟩
              by_cases hji : j' = i
              · subst hji
                refine ⟨hp, Or.inr (Or.inr ?_)⟩
                rw [haf, zn_zi (by omega)]
                exact hc
              · exact ha j' (by omega) hsj
            · rw [if_neg hc, if_pos (show (0 : Int32) = znn 0 from rfl)]
              by_cases he : s.testBit j = true
              · rw [if_pos he, if_neg (by decide)]
                left
                refine ⟨(), fun j' hj' hsj => ?_, rfl⟩
                by_cases hji : j' = i
                · subst hji
                  refine ⟨hp, Or.inr (Or.inl ?_)⟩
                  rw [haf, zn_zi (by omega)]
                  exact he
                · exact ha j' (by omega) hsj
              · rw [if_neg he, if_pos (show (0 : Int32) = znn 0 from rfl)]
                right
                refine ⟨0, Or.inr ⟨rfl, fun hall => ?_⟩, rfl⟩
                rcases (hall i hi hb).2 with h3 | h3
                · rw [haf] at h3; exact zn_ne_neg (by omega) h3
                · rw [haf, zn_zi (by omega)] at h3
                  exact h3.elim he hc
        · rw [if_neg hp]
          right
          exact ⟨0, Or.inr ⟨rfl, fun hall => hp (hall i hi hb).1⟩, rfl⟩
      · rw [if_neg hb, if_pos rfl]
        left
        refine ⟨(), fun j hj hsj => ?_, rfl⟩
        by_cases hji : j = i
        · subst hji; exact absurd hsj hb
        · exact ha j (by omega) hsj) (fun fu a ha => by
      (try dsimp only)
      rw [f223_l2, hw, h52, if_neg (by rw [zn_lt (by omega) (by omega)]; omega)]
      exact ⟨1, Or.inl ⟨rfl, ha⟩, rfl⟩) zfu 0 () (by omega) (by rw [zfu_eq]; omega) (fun j hj => by omega)
  have h1 : f223_l2 (znn s) (znn p) M zfu 0 = some r := h1
  rw [f223_goTogether, h1]
  rcases h2 with ⟨rfl, h2⟩ | ⟨rfl, h2⟩
  · exact ⟨true, rfl, by simpa using h2⟩
  · exact ⟨false, rfl, by simpa using h2⟩
