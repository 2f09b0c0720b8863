-- ===== A LAND's own sums, plans and who is given the day =====
theorem land_wrk {M : ZI} {R : ZF} {L : ZY} {t k : Nat} {w : Nat → Int32} (h : lndW M R L t w k) (hL : L.length ≤ 900000) (hk : k ≤ 12) : ∃ (a : Nat) (q : Nat → Nat), R t 11 = some a ∧ gak L a 51 = true ∧ gln L a = k ∧ ∀ i, i < k → gar L a 51 (znn i) = true ∧ R a i = some (q i) ∧ (∀ f, f < 6 → gar L (q i) 0 (znn f) = true) ∧ ∀ f, f < 6 → M (q i) f = w (90 + f + 6 * i) := by
  obtain ⟨a, q, -, h1, h2, h3⟩ := h
  refine ⟨a, q, h1, gak_of h2 (lay_lt h2 hL), gln_of h2, fun i hi => ?_⟩
  obtain ⟨-, g1, g2, g3⟩ := h3 i hi
  exact ⟨gar_of h2 (lay_lt h2 hL) hi (by omega), g1, fun f hf => gar6 g2 hL hf, fun f hf => by rw [g3 f hf]; congr 1; omega⟩
theorem land_sum2 {M : ZI} {R : ZF} {L : ZY} {t b n k f s : Nat} {w : Nat → Int32} (h : landIs M R L t b w n k) (hL : L.length ≤ 900000) (hk : wrkOk w n k) (hn : n ≤ 10) (hf : f < 5) (hs : s < 4096) : g109_sum t (znn s) (znn f) M R L = some (znn (wSum w f s k)) := by
  obtain ⟨⟨o1, -⟩, -, -, hW, -, -, -⟩ := h
  have hk12 := hk.1
  obtain ⟨a, q, w1, w2, w3, w4⟩ := land_wrk hW hL hk12
  obtain ⟨r, h1, h2⟩ := zloop (fun fu (x : Int32) c => g109_l5 t (znn s) (znn f) M R L fu x c) k (fun i x => x = znn (wSum w f s i)) (fun r => r = znn (wSum w f s k)) (fun fu i x hi ha => by
      subst ha
      left
      refine ⟨_, rfl, ?_⟩
      obtain ⟨v1, v2, v3, v4⟩ := w4 i hi
      obtain ⟨x, hx, e⟩ := wrk_val hk hn hf hi
      simp only [g109_l5]
      rw [if_pos (gob_of o1 (lay_lt o1 hL)), w1]
      simp only [Option.bind_some]
      rw [if_pos w2, w3, show Int32.ofNat k = znn k from rfl, if_pos ((zn_lt (by omega) (by omega)).mpr hi), zbit hs (by omega), if_pos v1, zn_zi (by omega), v2]
      simp only [Option.bind_some]
      rw [if_pos (v3 f (by omega)), zn_zi (by omega), v4 f (by omega), zadd1]
      simp only [zlet, wSum]
      by_cases hb : s.testBit i = true
      · simp only [if_pos hb]
        rw [if_pos trivial, e, zn_add, zn_zi (by omega)]
      · simp only [if_neg hb, Nat.add_zero]
        rw [if_neg (by decide)]) (fun fu x ha => by
      subst ha
      refine ⟨_, rfl, ?_⟩
      simp only [g109_l5]
      rw [if_pos (gob_of o1 (lay_lt o1 hL)), w1]
      simp only [Option.bind_some]
      rw [if_pos w2, w3, show Int32.ofNat k = znn k from rfl, if_neg (by rw [zn_lt (by omega) (by omega)]; omega)]) zfu 0 0 (by omega) (by rw [zfu_eq]; omega) rfl
  have h1 : g109_l5 t (znn s) (znn f) M R L zfu 0 0 = some r := h1
  rw [g109_sum, h1, h2]
  rfl
theorem land_can {M : ZI} {R : ZF} {L : ZY} {t b n k s d p : Nat} {w : Nat → Int32} (h : landIs M R L t b w n k) (hL : L.length ≤ 900000) (hk : wrkOk w n k) (hs : s < 4096) (hd : d < 4096) (h6 : w 6 = znn d) : ∃ b : Bool, g108_can t (znn s) (znn p) M R L = some (if b = true then 1 else 0) ∧ (b = true ↔ wTog w k p s d) := by
  obtain ⟨⟨o1, -⟩, ⟨f0, f1, f2, f3, f4, f5, f6, f7, f8, f9⟩, -, hW, -, -, -⟩ := h
  have hk12 := hk.1
  obtain ⟨a, q, w1, w2, w3, w4⟩ := land_wrk hW hL hk12
  obtain ⟨r, h1, h2⟩ := zloop (fun fu (_ : Unit) c => g108_l2 t (znn s) (znn p) M R L (fun _ => some (1 : Int32)) fu c) k (fun i _ => ∀ j, j < i → s.testBit j = true → w (90 + 6 * j) = znn p ∧ wAft w s d j) (fun r => (r = 1 ∧ wTog w k p s d) ∨ (r = 0 ∧ ¬ wTog w k p s d)) (fun fu i _ hi ha => by
      obtain ⟨v1, v2, v3, v4⟩ := w4 i hi
      have e0 : M (q i) 0 = w (90 + 6 * i) := v4 0 (by decide)
      have e5 : M (q i) 5 = w (95 + 6 * i) := by rw [v4 5 (by decide)]
      simp only [g108_l2]
      rw [if_pos (gob_of o1 (lay_lt o1 hL)), w1]
      simp only [Option.bind_some]
      rw [if_pos w2, w3, show Int32.ofNat k = znn k from rfl, if_pos ((zn_lt (by omega) (by omega)).mpr hi), zbit hs (by omega), f9, h6]
      have g0 : gar L (q i) 0 0 = true := v3 0 (by decide)
      have g5 : gar L (q i) 0 5 = true := v3 5 (by decide)
      have zp : zi (znn i) = i := zn_zi (by omega)
      simp only [v1, zp, v2, g0, g5, if_true, Option.bind_some, zi_l0, zi_l5, e0, e5]
      rw [zadd1]
      by_cases hb : s.testBit i = true
      · rw [if_pos hb, if_pos rfl]
        by_cases hp : w (90 + 6 * i) = znn p
        · rw [if_pos hp]
          obtain ⟨-, -, -, -, -, haf⟩ := hk.2.2 i hi
          rcases haf with haf | ⟨j, hj, haf, -⟩
          · rw [haf, if_pos (by decide)]
            left
            refine ⟨(), fun j hj hsj => ?_, rfl⟩
            by_cases hji : j = i
            · subst hji; exact ⟨hp, Or.inl haf⟩
            · exact ha j (by omega) hsj
          · rw [haf, if_neg (show ¬ znn j < 0 by rw [zl0, zn_lt (by omega) (by decide)]; omega), zn_or, zbit (Nat.or_lt_two_pow (n := 12) hs hd) (by omega)]
            by_cases hc : (s ||| d).testBit j = true
            · rw [if_pos hc, if_neg (by decide)]
              left
              refine ⟨(), fun j' hj' hsj => ?_, rfl⟩
              by_cases hji : j' = i
              · subst hji
                refine ⟨hp, Or.inr ?_⟩
                rw [haf, zn_zi (by omega)]
                rw [Nat.testBit_or, Bool.or_eq_true] at hc
                exact hc
              · exact ha j' (by omega) hsj
            · rw [if_neg hc, if_pos rfl]
              right
              refine ⟨0, Or.inr ⟨rfl, fun hall => ?_⟩, rfl⟩
              rw [Nat.testBit_or, Bool.or_eq_true] at hc
              rcases (hall i hi hb).2 with h3 | h3
              · rw [haf] at h3; exact zn_ne_neg (by omega) h3
              · rw [haf, zn_zi (by omega)] at h3
                exact hc h3
        · rw [if_neg hp]
          right
          exact ⟨0, Or.inr ⟨rfl, fun hall => hp (hall i hi hb).1⟩, rfl⟩
      · rw [if_neg hb, if_neg (by decide)]
        left
        refine ⟨(), fun j hj hsj => ?_, rfl⟩
        by_cases hji : j = i
        · subst hji; exact absurd hsj hb
        · exact ha j (by omega) hsj) (fun fu x ha => by
      simp only [g108_l2]
      rw [if_pos (gob_of o1 (lay_lt o1 hL)), w1]
      simp only [Option.bind_some]
      rw [if_pos w2, w3, show Int32.ofNat k = znn k from rfl, if_neg (by rw [zn_lt (by omega) (by omega)]; omega)]
      exact ⟨1, Or.inl ⟨rfl, ha⟩, rfl⟩) zfu 0 () (by omega) (by rw [zfu_eq]; omega) (fun j hj => by omega)
  have h1 : g108_l2 t (znn s) (znn p) M R L (fun _ => some (1 : Int32)) zfu 0 = some r := h1
  rw [g108_can, h1]
  rcases h2 with ⟨rfl, h2⟩ | ⟨rfl, h2⟩
  · exact ⟨true, rfl, by simpa using h2⟩
  · exact ⟨false, rfl, by simpa using h2⟩
theorem land_plan {M : ZI} {R : ZF} {L : ZY} {t b n k p h d : Nat} {w : Nat → Int32} (hl : landIs M R L t b w n k) (hL : L.length ≤ 900000) (hk : wrkOk w n k) (hn : n ≤ 10) (hh : h ≤ 24) (hd : d < 4096) (h6 : w 6 = znn d) : ∃ x, pBest w k p h d (2 ^ k) x ∧ g107_plan t (znn p) (znn h) M R L = some (znn x) := by
  have hk12 := hk.1
  have hp4 := pow_4096 hk12
  have hpos : 0 < 2 ^ k := Nat.two_pow_pos k
  obtain ⟨⟨o1, -⟩, ⟨f0, f1, f2, f3, f4, f5, f6, f7, f8, f9⟩, -, hW, -, -, -⟩ := id hl
  obtain ⟨a, q, w1, w2, w3, w4⟩ := land_wrk hW hL hk12
  obtain ⟨r, h1, x, hx, rfl⟩ := zloop (fun fu (x : Int32) c => g107_l5 t (znn p) (znn h) M R L fu x c) (2 ^ k) (fun i a => ∃ x, pBest w k p h d i x ∧ a = znn x) (fun r => ∃ x, pBest w k p h d (2 ^ k) x ∧ r = znn x) (fun fu i a hik ha => by
      obtain ⟨x, hx, rfl⟩ := ha
      have hx4 : x < 4096 := by rcases pBest_lt hx with h | h <;> omega
      left
      simp only [g107_l5]
      rw [if_pos (gob_of o1 (lay_lt o1 hL)), w1]
      simp only [Option.bind_some]
      rw [if_pos w2, w3, show Int32.ofNat k = znn k from rfl, pow_zn hk12, if_pos ((zn_lt (by omega) (by omega)).mpr hik), f9, h6, zn_and, zadd1]
      have stay : ¬ (pQual w k p h d i ∧ pBet w k i x) → ∃ y, pBest w k p h d (i + 1) y ∧ znn x = znn y := fun hno => ⟨x, ⟨x, hx, Or.inr ⟨hno, rfl⟩⟩, rfl⟩
      by_cases c1 : i &&& d = 0
      · have hid : znn (i &&& d) = 0 := by rw [c1]; rfl
        obtain ⟨b, hb, hbt⟩ := land_can (p := p) hl hL hk (show i < 4096 by omega) hd h6
        rw [if_pos hid, hb, show (1 : Int32) = znn 1 from rfl, show (2 : Int32) = znn 2 from rfl, land_sum2 hl hL hk hn (by decide) (by omega), land_sum2 hl hL hk hn (by decide) (by omega), land_sum2 hl hL hk hn (by decide) hx4, land_sum2 hl hL hk hn (by decide) hx4]
        have b1 := wSum_bd (f := 1) (s := i) hk hn (by decide)
        have b2 := wSum_bd (f := 1) (s := x) hk hn (by decide)
        have b3 := wSum_bd (f := 2) (s := i) hk hn (by decide)
        have b4 := wSum_bd (f := 2) (s := x) hk hn (by decide)
        simp only [Option.bind_some]
        cases b with
        | false =>
          have : ¬ wTog w k p i d := fun ht => by have := hbt.mpr ht; cases this
          exact ⟨znn x, stay (fun hf => this hf.1.2.2), rfl⟩
        | true =>
          have htog := hbt.mp rfl
          rw [if_neg (by decide)]
          by_cases c2 : znn h < znn (wSum w 1 i k)
          · rw [if_pos c2]
            rw [zn_lt (by omega) (by omega)] at c2
            exact ⟨znn x, stay (fun hf => by have := hf.1.2.1; omega), rfl⟩
          · rw [if_neg c2]
            rw [zn_lt (by omega) (by omega)] at c2
            have hq : pQual w k p h d i := ⟨and_0.mp c1, by omega, htog⟩
            have take : pBet w k i x → ∃ y, pBest w k p h d (i + 1) y ∧ znn i = znn y := fun hb => ⟨i, ⟨x, hx, Or.inl ⟨hq, hb, rfl⟩⟩, rfl⟩
            by_cases c3 : wSum w 2 x k < wSum w 2 i k
            · rw [if_pos ((zn_lt (by omega) (by omega)).mpr c3)]
              exact ⟨znn i, take (Or.inl c3), rfl⟩
            · rw [if_neg (by rw [zn_lt (by omega) (by omega)]; exact c3)]
              by_cases c4 : wSum w 2 i k = wSum w 2 x k
              · rw [if_pos (show znn (wSum w 2 i k) = znn (wSum w 2 x k) by rw [c4])]
                by_cases c5 : wSum w 1 i k < wSum w 1 x k
                · rw [if_pos ((zn_lt (by omega) (by omega)).mpr c5)]
                  exact ⟨znn i, take (Or.inr ⟨c4, c5⟩), rfl⟩
                · rw [if_neg (by rw [zn_lt (by omega) (by omega)]; exact c5)]
                  exact ⟨znn x, stay (fun hf => by rcases hf.2 with h | h <;> omega), rfl⟩
              · rw [if_neg (by rw [zn_eq (by omega) (by omega)]; exact c4)]
                exact ⟨znn x, stay (fun hf => by rcases hf.2 with h | h <;> omega), rfl⟩
      · have hlt : i &&& d < 4096 := Nat.lt_of_le_of_lt Nat.and_le_left (by omega)
        rw [if_neg (show ¬ znn (i &&& d) = 0 by rw [zl0, zn_eq (by omega) (by decide)]; exact c1)]
        exact ⟨znn x, stay (fun hf => c1 (and_0.mpr hf.1.1)), rfl⟩) (fun fu a ha => by
      obtain ⟨x, hx, rfl⟩ := ha
      refine ⟨znn x, ⟨x, hx, rfl⟩, ?_⟩
      simp only [g107_l5]
      rw [if_pos (gob_of o1 (lay_lt o1 hL)), w1]
      simp only [Option.bind_some]
      rw [if_pos w2, w3, show Int32.ofNat k = znn k from rfl, pow_zn hk12, if_neg (by rw [zn_lt (by omega) (by omega)]; omega)]) zfu 0 0 (by omega) (by rw [zfu_eq]; omega) ⟨0, rfl, rfl⟩
  refine ⟨x, hx, ?_⟩
  have h1 : g107_l5 t (znn p) (znn h) M R L zfu 0 0 = some (znn x) := h1
  rw [g107_plan, h1]
  rfl
