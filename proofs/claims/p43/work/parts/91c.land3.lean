-- ===== who is given the day, as a LAND tells it from the last to the first =====
def okG (w vo : Nat → Int32) (n q : Nat) : Prop := 0 < sSum w vo q n ∧ sSat w (sNam vo q n) = 1
def betG (w vo : Nat → Int32) (n p q : Nat) : Prop := sSum w vo q n < sSum w vo p n ∨ (sSum w vo p n = sSum w vo q n ∧ w (60 + q) < w (60 + p))
def bestG (w vo : Nat → Int32) (n lo hi : Nat) : Option Nat → Prop
  | none => ∀ q, lo ≤ q → q < hi → ¬ okG w vo n q
  | some x => lo ≤ x ∧ x < hi ∧ okG w vo n x ∧ ∀ q, lo ≤ q → q < hi → okG w vo n q → ¬ betG w vo n q x ∧ (q < x → betG w vo n x q)
theorem sBef_iff {w vo : Nat → Int32} {n p q : Nat} : sBef w vo n p (some q) = true ↔ betG w vo n p q := by
  simp [sBef, betG]
theorem betG_trans {w vo : Nat → Int32} {n a b c : Nat} (h1 : betG w vo n a b) (h2 : betG w vo n b c) : betG w vo n a c := by
  unfold betG at *
  rcases h1 with h1 | ⟨h1, h1'⟩ <;> rcases h2 with h2 | ⟨h2, h2'⟩
  · left; omega
  · left; omega
  · left; omega
  · right; exact ⟨by omega, Int32.lt_trans h2' h1'⟩
theorem betG_irr {w vo : Nat → Int32} {n a : Nat} : ¬ betG w vo n a a := by
  unfold betG
  rintro (h | ⟨-, h⟩)
  · omega
  · exact Int32.lt_irrefl h
theorem betG_tot {w vo : Nat → Int32} {n a b c : Nat} (h1 : ¬ betG w vo n a b) (h2 : betG w vo n c b) : betG w vo n c a := by
  unfold betG at *
  rcases h2 with h2 | ⟨h2, h2'⟩
  · by_cases e : sSum w vo a n < sSum w vo c n
    · exact Or.inl e
    · exact absurd (Or.inl (by omega)) h1
  · by_cases e : sSum w vo a n < sSum w vo c n
    · exact Or.inl e
    · by_cases e2 : sSum w vo b n < sSum w vo a n
      · exact absurd (Or.inl e2) h1
      · have e3 : sSum w vo a n = sSum w vo b n := by omega
        refine Or.inr ⟨by omega, ?_⟩
        have h3 : ¬ w (60 + b) < w (60 + a) := fun h => h1 (Or.inr ⟨e3, h⟩)
        exact Int32.lt_of_le_of_lt (Int32.not_lt.mp h3) h2'
theorem sGiv_best {w vo : Nat → Int32} {n : Nat} : ∀ i, bestG w vo n 0 i (sGiv w vo n i)
  | 0 => fun q _ h => absurd h (by omega)
  | i + 1 => by
    have ih := sGiv_best (w := w) (vo := vo) (n := n) i
    unfold sGiv
    by_cases hc : 0 < sSum w vo i n ∧ sSat w (sNam vo i n) = 1 ∧ sBef w vo n i (sGiv w vo n i) = true
    · rw [if_pos hc]
      refine ⟨by omega, by omega, ⟨hc.1, hc.2.1⟩, fun q _ hq hok => ?_⟩
      by_cases hqi : q = i
      · subst hqi
        exact ⟨betG_irr, fun h => absurd h (by omega)⟩
      · cases hs : sGiv w vo n i with
        | none =>
          rw [hs] at ih
          exact absurd hok (ih q (by omega) (by omega))
        | some x =>
          rw [hs] at ih hc
          have hb := sBef_iff.mp hc.2.2
          have hq2 := (ih.2.2.2 q (by omega) (by omega) hok).1
          have hb2 : betG w vo n i q := betG_tot hq2 hb
          exact ⟨fun h => betG_irr (betG_trans h hb2), fun _ => hb2⟩
    · rw [if_neg hc]
      cases hs : sGiv w vo n i with
      | none =>
        rw [hs] at ih hc
        intro q _ hq hok
        by_cases hqi : q = i
        · subst hqi
          exact hc ⟨hok.1, hok.2, rfl⟩
        · exact ih q (by omega) (by omega) hok
      | some x =>
        rw [hs] at ih hc
        refine ⟨ih.1, by have := ih.2.1; omega, ih.2.2.1, fun q _ hq hok => ?_⟩
        by_cases hqi : q = i
        · subst hqi
          have h1 := ih.2.1
          exact ⟨fun h => hc ⟨hok.1, hok.2, sBef_iff.mpr h⟩, fun h => by omega⟩
        · exact ih.2.2.2 q (by omega) (by omega) hok
theorem bestG_uniq {w vo : Nat → Int32} {n hi : Nat} {x y : Option Nat} (hx : bestG w vo n 0 hi x) (hy : bestG w vo n 0 hi y) : x = y := by
  cases x with
  | none =>
    cases y with
    | none => rfl
    | some b => exact absurd hy.2.2.1 (hx b (by omega) hy.2.1)
  | some a =>
    cases y with
    | none => exact absurd hx.2.2.1 (hy a (by omega) hx.2.1)
    | some b =>
      have h1 := hx.2.2.2 b (by omega) hy.2.1 hy.2.2.1
      have h2 := hy.2.2.2 a (by omega) hx.2.1 hx.2.2.1
      rcases Nat.lt_trichotomy a b with h | h | h
      · exact absurd (h2.2 h) h1.1
      · rw [h]
      · exact absurd (h1.2 h) h2.1
theorem land_given_loop {M : ZI} {R : ZF} {L : ZY} {t b n k Y : Nat} {w : Nat → Int32} (h : landIs M R L t b w n k) (hL : L.length ≤ 900000) (hn : n ≤ 10) (h48 : w 48 = znn n) (hy : Y ≤ 999) (hmo : momOk w n Y) (hr : ruleOk w) : ∀ (i fuel : Nat) (best : Option Nat), i ≤ n → i < fuel → bestG w (fun v => w (80 + v)) n i n best → g100_l9 t M R L fuel (optI best) (znn i - 1) = some (optI (sGiv w (fun v => w (80 + v)) n n)) := by
  intro i
  induction i with
  | zero =>
    intro fuel best hi hf hb
    obtain ⟨f, rfl⟩ : ∃ f, fuel = f + 1 := ⟨fuel - 1, by omega⟩
    simp only [g100_l9]
    rw [if_pos (by decide), bestG_uniq hb (sGiv_best n)]
  | succ i ih =>
    intro fuel best hi hf hb
    obtain ⟨f, rfl⟩ : ∃ f, fuel = f + 1 := ⟨fuel - 1, by omega⟩
    obtain ⟨⟨o1, o2, o3, o4, o5, o6⟩, -, ⟨hbb, hP⟩, -, -, -, -⟩ := id h
    have e : znn (i + 1) - 1 = znn i := by rw [zl1, zn_sub (by omega)]; rfl
    have e2 : znn i + (-1 : Int32) = znn i - 1 := (Int32.sub_eq_add_neg _ _).symm
    have hsu := fun q : Nat => land_sum (p := q) h hL hn h48 hy hmo
    have hvo := land_voices (p := i) h hL hn h48
    have hN : sNam (fun v => w (80 + v)) i n < 1024 := sNam_1024 _ i n hn
    have hdo := land_does h hL hN hr
    have sb := fun q : Nat => sSum_le w (fun v => w (80 + v)) q n
    rw [e]
    simp only [g100_l9]
    rw [if_neg (by rw [zl0, zn_lt (by omega) (by omega)]; omega), if_pos (gob_of o1 (lay_lt o1 hL)), hsu i]
    simp only [Option.bind_some]
    rw [e2]
    have skip : ¬ okG w (fun v => w (80 + v)) n i → bestG w (fun v => w (80 + v)) n i n best := by
      intro hno
      cases best with
      | none =>
        intro q h1 h2 hok
        by_cases hq : q = i
        · subst hq; exact hno hok
        · exact hb q (by omega) h2 hok
      | some x =>
        refine ⟨by have := hb.1; omega, hb.2.1, hb.2.2.1, fun q h1 h2 hok => ?_⟩
        by_cases hq : q = i
        · subst hq; exact absurd hok hno
        · exact hb.2.2.2 q (by omega) h2 hok
    by_cases c1 : sSum w (fun v => w (80 + v)) i n = 0
    · rw [if_pos (show znn (sSum w (fun v => w (80 + v)) i n) = 0 by rw [c1]; rfl)]
      exact ih f best (by omega) (by omega) (skip (fun ho => by have := ho.1; omega))
    · have := sb i
      rw [if_neg (by rw [zl0, zn_eq (by omega) (by decide)]; exact c1), hvo]
      simp only [Option.bind_some]
      rw [hdo]
      simp only [Option.bind_some]
      by_cases c2 : sSat w (sNam (fun v => w (80 + v)) i n) = 0
      · rw [if_pos c2]
        exact ih f best (by omega) (by omega) (skip (fun ho => by rw [ho.2] at c2; cases c2))
      · have c2' : sSat w (sNam (fun v => w (80 + v)) i n) = 1 := (sSat_01 hr hN).resolve_left c2
        have hok : okG w (fun v => w (80 + v)) n i := ⟨by omega, c2'⟩
        rw [if_neg c2]
        cases best with
        | none =>
          rw [if_pos (show optI none < 0 by decide)]
          refine ih f (some i) (by omega) (by omega) ⟨by omega, by omega, hok, fun q h1 h2 hq => ?_⟩
          by_cases hqi : q = i
          · subst hqi
            exact ⟨betG_irr, fun h => absurd h (by omega)⟩
          · exact absurd hq (hb q (by omega) h2)
        | some x =>
          have hx := hb.2.1
          have := sb x
          have take : ¬ betG w (fun v => w (80 + v)) n x i → bestG w (fun v => w (80 + v)) n i n (some i) := by
            intro hnb
            refine ⟨by omega, by omega, hok, fun q h1 h2 hq => ⟨?_, fun h => by omega⟩⟩
            by_cases hqi : q = i
            · subst hqi
              exact betG_irr
            · intro hqb
              exact (hb.2.2.2 q (by omega) h2 hq).1 (betG_tot hnb hqb)
          have stay : betG w (fun v => w (80 + v)) n x i → bestG w (fun v => w (80 + v)) n i n (some x) := by
            intro hbb
            refine ⟨by have := hb.1; omega, hx, hb.2.2.1, fun q h1 h2 hq => ?_⟩
            by_cases hqi : q = i
            · subst hqi
              exact ⟨fun h => betG_irr (betG_trans h hbb), fun _ => hbb⟩
            · exact hb.2.2.2 q (by omega) h2 hq
          obtain ⟨pi1, pi2, qi0, qi1, -⟩ := hP i (by omega)
          obtain ⟨px1, px2, qx0, qx1, -⟩ := hP x hx
          rw [if_neg (show ¬ optI (some x) < 0 by show ¬ znn x < 0; rw [zl0, zn_lt (by omega) (by omega)]; omega), show optI (some x) = znn x from rfl, hsu x, o4]
          simp only [Option.bind_some]
          by_cases c3 : sSum w (fun v => w (80 + v)) x n < sSum w (fun v => w (80 + v)) i n
          · rw [if_pos ((zn_lt (by omega) (by omega)).mpr c3)]
            exact ih f (some i) (by omega) (by omega) (take (fun hh => by rcases hh with hh | hh <;> omega))
          · rw [if_neg (by rw [zn_lt (by omega) (by omega)]; exact c3)]
            by_cases c4 : sSum w (fun v => w (80 + v)) i n = sSum w (fun v => w (80 + v)) x n
            · rw [if_pos (show znn (sSum w (fun v => w (80 + v)) i n) = znn (sSum w (fun v => w (80 + v)) x n) by rw [c4])]
              have gi : gar L (t + 1) 51 (znn i) = true := gar10 o2 hL (by omega)
              have gx : gar L (t + 1) 51 (znn x) = true := gar10 o2 hL (by omega)
              have g1 : gar L (b + i) 0 1 = true := gar7 pi2 hL (j := 1) (by decide)
              have g2 : gar L (b + x) 0 1 = true := gar7 px2 hL (j := 1) (by decide)
              have zi1 : zi (znn i) = i := zn_zi (by omega)
              have zx1 : zi (znn x) = x := zn_zi (by omega)
              simp only [gi, gx, g1, g2, zi1, zx1, pi1, px1, if_true, Option.bind_some, zi_l1, qi1, qx1]
              by_cases c5 : w (60 + i) < w (60 + x)
              · rw [if_pos c5]
                exact ih f (some x) (by omega) (by omega) (stay (Or.inr ⟨c4.symm, c5⟩))
              · rw [if_neg c5]
                exact ih f (some i) (by omega) (by omega) (take (fun hh => by rcases hh with hh | ⟨-, hh⟩; omega; exact c5 hh))
            · rw [if_neg (by rw [zn_eq (by omega) (by omega)]; exact c4)]
              exact ih f (some x) (by omega) (by omega) (stay (Or.inl (by omega)))
theorem land_given {M : ZI} {R : ZF} {L : ZY} {t b n k Y : Nat} {w : Nat → Int32} (h : landIs M R L t b w n k) (hL : L.length ≤ 900000) (hn : n ≤ 10) (h48 : w 48 = znn n) (hy : Y ≤ 999) (hmo : momOk w n Y) (hr : ruleOk w) : g100_given t M R L = some (optI (sGiv w (fun v => w (80 + v)) n n)) := by
  have hl := land_given_loop h hL hn h48 hy hmo hr n zfu none (Nat.le_refl _) (by rw [zfu_eq]; omega) (fun q h1 h2 => absurd h2 (by omega))
  obtain ⟨⟨o1, -⟩, ⟨f0, f1, f2, f3, f4, f5, f6, f7, f8, f9⟩, -, -, -, -, -⟩ := h
  unfold g100_given
  rw [if_pos (gob_of o1 (lay_lt o1 hL)), f7, h48]
  simp only [zlet]
  rw [show (-1 : Int32) = optI none from rfl, hl]
  rfl
