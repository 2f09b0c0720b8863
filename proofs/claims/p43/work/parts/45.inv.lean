-- ===== WHAT HOLDS between the class (in memory A) and the reference (in memory B) from call to call =====
def pastIs (A B : ZI) (n : Nat) : Prop := ∃ o m, o < 6 ∧ m ≤ 6 ∧ A 0 4 = znn o ∧ A 0 5 = znn m ∧ B 148 4 = znn m ∧ ∀ j, j < m → momIs A (84 + 5 * ((o + j) % 6)) (fun x => B 151 (48 * j + x)) n ∧ momOk (fun x => B 151 (48 * j + x)) n 999
def imgIs (A B : ZI) : Prop := A 0 2 = B 148 5 ∧ (A 0 2 = 0 ∨ (A 0 2 = 1 ∧ ∃ n k c b, fixIs A 42 (B 150) n k c b ∧ fixOk (B 150) n k c b ∧ momIs A 43 (B 150) n ∧ momOk (B 150) n 999 ∧ bookIs A 48 (B 150)))
def tapeIs (A B : ZI) : Prop := ∃ t, t ≤ 400 ∧ A 119 1 = znn t ∧ B 148 19 = znn t ∧ (∀ i, i < t → A 120 i = B 158 i ∧ ∃ x, x < 256 ∧ A 120 i = znn x) ∧ A 119 10 = B 148 26 ∧ A 119 11 = B 148 28
def Inv5 (A B : ZI) (n k c b : Nat) : Prop := fixIs A 1 (B 149) n k c b ∧ fixOk (B 149) n k c b ∧ momIs A 2 (B 149) n ∧ momOk (B 149) n 999 ∧ bookIs A 7 (B 149)
def Inv2 (A B : ZI) : Prop := ∃ n k c b, Inv5 A B n k c b ∧ pastIs A B n ∧ imgIs A B ∧ tapeIs A B
theorem bookIs_of {A A' : ZI} {t : Nat} {w : Nat → Int32} (h : bookIs A t w) (g : ∀ o, t + 1 ≤ o → o ≤ t + 4 → A' o = A o) : bookIs A' t w := by
  intro i hi
  rw [g (t + 1) (by omega) (by omega), g (t + 2) (by omega) (by omega), g (t + 3) (by omega) (by omega), g (t + 4) (by omega) (by omega)]
  exact h i hi
theorem bookIs_row {A : ZI} {t : Nat} {w w' : Nat → Int32} (h : bookIs A t w) (g : ∀ j, 578 ≤ j → j < 1178 → w' j = w j) : bookIs A t w' := by
  intro i hi
  rw [g _ (by omega) (by omega), g _ (by omega) (by omega), g _ (by omega) (by omega), g _ (by omega) (by omega)]
  exact h i hi
theorem momIs_row {A : ZI} {a n : Nat} {v v' : Nat → Int32} (h : momIs A a v n) (hn : n ≤ 10) (g : ∀ j, j < 48 → v' j = v j) : momIs A a v' n := by
  obtain ⟨h1, h2⟩ := h
  refine ⟨by rw [g 1 (by decide), g 0 (by decide), g 2 (by decide), g 3 (by decide), g 6 (by decide), g 4 (by decide), g 5 (by decide)]; exact h1, fun p hp => ?_⟩
  rw [g _ (by omega), g _ (by omega), g _ (by omega), g _ (by omega)]
  exact h2 p hp
theorem momOk_row {n Y : Nat} {v v' : Nat → Int32} (h : momOk v n Y) (hn : n ≤ 10) (g : ∀ j, j < 48 → v' j = v j) : momOk v' n Y := by
  obtain ⟨h1, ⟨y, h2, h3, h4⟩, h5, h6, h7⟩ := h
  refine ⟨by rw [g 1 (by decide)]; exact h1, ⟨y, h2, by rw [g 0 (by decide)]; exact h3, fun p hp => by rw [g _ (by omega)]; exact h4 p hp⟩, by rw [g 5 (by decide)]; exact h5, by rw [g 6 (by decide)]; exact h6, fun p hp => ?_⟩
  rw [g _ (by omega), g _ (by omega)]
  exact h7 p hp
theorem momOk_mono {n Y Y' : Nat} {v : Nat → Int32} (h : momOk v n Y) (hY : Y ≤ Y') : momOk v n Y' := by
  obtain ⟨h1, ⟨y, h2, h3⟩, h4⟩ := h
  exact ⟨h1, ⟨y, by omega, h3⟩, h4⟩
theorem momOk_exact {n Y y : Nat} {v : Nat → Int32} (h : momOk v n Y) (h0 : v 0 = znn y) (hy : y < 2000000) (hY : Y < 2000000) : momOk v n y := by
  obtain ⟨h1, ⟨y', h2, h3, h3'⟩, h4⟩ := h
  have : y' = y := by
    rw [h3, zn_eq (by omega) (by omega)] at h0
    exact h0
  subst this
  exact ⟨h1, ⟨y', Nat.le_refl _, h3, h3'⟩, h4⟩
theorem pastIs_of {A A' B B' : ZI} {n : Nat} (h : pastIs A B n) (hA : A' 0 4 = A 0 4 ∧ A' 0 5 = A 0 5 ∧ ∀ o, 84 ≤ o → o < 114 → A' o = A o) (hB : B' 148 4 = B 148 4 ∧ B' 151 = B 151) : pastIs A' B' n := by
  obtain ⟨o, m, h1, h2, h3, h4, h5, h6⟩ := h
  refine ⟨o, m, h1, h2, by rw [hA.1]; exact h3, by rw [hA.2.1]; exact h4, by rw [hB.1]; exact h5, fun j hj => ?_⟩
  rw [hB.2]
  have := Nat.mod_lt (o + j) (show 0 < 6 by decide)
  exact ⟨momIs_of (h6 j hj).1 (fun q g1 g2 => hA.2.2 q (by omega) (by omega)), (h6 j hj).2⟩
theorem imgIs_of {A A' B B' : ZI} (h : imgIs A B) (hA : A' 0 2 = A 0 2 ∧ ∀ o, 42 ≤ o → o < 84 → A' o = A o) (hB : B' 148 5 = B 148 5 ∧ B' 150 = B 150) : imgIs A' B' := by
  obtain ⟨h1, h2⟩ := h
  refine ⟨by rw [hA.1, hB.1]; exact h1, ?_⟩
  rw [hA.1, hB.2]
  rcases h2 with h2 | ⟨h2, n, k, c, b, g1, g2, g3, g4, g5⟩
  · exact Or.inl h2
  · exact Or.inr ⟨h2, n, k, c, b, fixIs_of g1 (fun o ho => hA.2 o (by omega) (by omega)), g2, momIs_of g3 (fun o q1 q2 => hA.2 o (by omega) (by omega)), g4, bookIs_of g5 (fun o q1 q2 => hA.2 o (by omega) (by omega))⟩
theorem tapeIs_of {A A' B B' : ZI} (h : tapeIs A B) (hA : A' 119 1 = A 119 1 ∧ A' 119 10 = A 119 10 ∧ A' 119 11 = A 119 11 ∧ A' 120 = A 120) (hB : B' 148 19 = B 148 19 ∧ B' 148 26 = B 148 26 ∧ B' 148 28 = B 148 28 ∧ B' 158 = B 158) : tapeIs A' B' := by
  obtain ⟨t, h1, h2, h3, h4, h5, h6⟩ := h
  refine ⟨t, h1, by rw [hA.1]; exact h2, by rw [hB.1]; exact h3, fun i hi => by rw [hA.2.2.2, hB.2.2.2]; exact h4 i hi, by rw [hA.2.1, hB.2.1]; exact h5, by rw [hA.2.2.1, hB.2.2.1]; exact h6⟩
theorem wrkIs_of {A A' : ZI} {t k : Nat} {w : Nat → Int32} (h : wrkIs A t w k) (g6 : A' t 6 = A t 6) (g : ∀ o, t + 1 ≤ o → o ≤ t + 6 → A' o = A o) : wrkIs A' t w k := by
  unfold wrkIs at h ⊢
  rw [g6, g (t + 1) (by omega) (by omega), g (t + 2) (by omega) (by omega), g (t + 3) (by omega) (by omega), g (t + 4) (by omega) (by omega), g (t + 5) (by omega) (by omega), g (t + 6) (by omega) (by omega)]
  exact h
/-- what the class may scratch in, and the reference -/
def scrA (A A' : ZI) : Prop := (∀ o, o ≠ 16 → o ≠ 33 → o ≠ 40 → o ≠ 41 → o ≠ 28 → o ≠ 147 → o ≠ 21 → ¬ (114 ≤ o ∧ o ≤ 118) → A' o = A o) ∧ ∀ j, j ≠ 8 → j ≠ 9 → A' 21 j = A 21 j
def scrB (B B' : ZI) : Prop := (∀ o, o ≠ 148 → o ≠ 152 → o ≠ 159 → o ≠ 160 → o ≠ 161 → B' o = B o) ∧ ∀ j, j ≠ 30 → B' 148 j = B 148 j
theorem scrA_of {A A' : ZI} (h : ∀ o, o ≠ 16 → o ≠ 33 → o ≠ 40 → o ≠ 41 → o ≠ 28 → o ≠ 147 → ¬ (114 ≤ o ∧ o ≤ 118) → A' o = A o) : scrA A A' :=
  ⟨fun o a b c d e f _ g => h o a b c d e f g, fun j _ _ => by rw [h 21 (by decide) (by decide) (by decide) (by decide) (by decide) (by decide) (by omega)]⟩
theorem scrB_of {B B' : ZI} (h : ∀ o, o ≠ 152 → o ≠ 159 → o ≠ 160 → o ≠ 161 → B' o = B o) : scrB B B' :=
  ⟨fun o _ b c d e => h o b c d e, fun j _ => by rw [h 148 (by decide) (by decide) (by decide) (by decide)]⟩
theorem scrA_refl (A : ZI) : scrA A A := ⟨fun _ _ _ _ _ _ _ _ _ => rfl, fun _ _ _ => rfl⟩
theorem scrB_refl (B : ZI) : scrB B B := ⟨fun _ _ _ _ _ _ => rfl, fun _ _ => rfl⟩
theorem scrA_trans {A A' A'' : ZI} (h1 : scrA A A') (h2 : scrA A' A'') : scrA A A'' := ⟨fun o a b c d e f g h => (h2.1 o a b c d e f g h).trans (h1.1 o a b c d e f g h), fun j a b => (h2.2 j a b).trans (h1.2 j a b)⟩
theorem scrB_trans {B B' B'' : ZI} (h1 : scrB B B') (h2 : scrB B' B'') : scrB B B'' := ⟨fun o a b c d e => (h2.1 o a b c d e).trans (h1.1 o a b c d e), fun j a => (h2.2 j a).trans (h1.2 j a)⟩
theorem fix_scr {A A' : ZI} {w : Nat → Int32} {n k c b : Nat} (h : fixIs A 1 w n k c b) (hA : scrA A A') : fixIs A' 1 w n k c b := by
  obtain ⟨h1, h2⟩ := hA
  have hall : ∀ o, o ≠ 16 → o ≠ 33 → o ≠ 40 → o ≠ 41 → o ≠ 28 → o ≠ 147 → o ≠ 21 → ¬ (114 ≤ o ∧ o ≤ 118) → A' o = A o := h1
  obtain ⟨g1, g2, g3, g4, g5⟩ := h
  have f : fixIs (fun o => if o = 21 then A 21 else A' o) 1 w n k c b := fixIs_of ⟨g1, g2, g3, g4, g5⟩ (fun o ho => by
    show (if o = 21 then A 21 else A' o) = A o
    by_cases ho21 : o = 21
    · rw [if_pos ho21, ho21]
    · rw [if_neg ho21]
      exact h1 o (by omega) (by omega) (by omega) (by omega) (by omega) (by omega) ho21 (by omega))
  obtain ⟨f1, f2, f3, f4, f5⟩ := f
  refine ⟨f1, f2, ?_, f4, f5⟩
  exact wrkIs_of g3 (h2 6 (by decide) (by decide)) (fun o q1 q2 => h1 o (by omega) (by omega) (by omega) (by omega) (by omega) (by omega) (by omega) (by omega))
theorem Inv5_scr {A A' B B' : ZI} {n k c b : Nat} (h : Inv5 A B n k c b) (hA : scrA A A') (hB : B' 149 = B 149) : Inv5 A' B' n k c b := by
  obtain ⟨h1, h2, h3, h4, h5⟩ := h
  unfold Inv5
  rw [hB]
  exact ⟨fix_scr h1 hA, h2, momIs_of h3 (fun o q1 q2 => hA.1 o (by omega) (by omega) (by omega) (by omega) (by omega) (by omega) (by omega) (by omega)), h4, bookIs_of h5 (fun o q1 q2 => hA.1 o (by omega) (by omega) (by omega) (by omega) (by omega) (by omega) (by omega) (by omega))⟩
theorem rest_scr {A A' B B' : ZI} {n : Nat} (h : pastIs A B n ∧ imgIs A B ∧ tapeIs A B) (hA : scrA A A') (hB : scrB B B') : pastIs A' B' n ∧ imgIs A' B' ∧ tapeIs A' B' := by
  have a : ∀ o, o ≠ 16 → o ≠ 33 → o ≠ 40 → o ≠ 41 → o ≠ 28 → o ≠ 147 → o ≠ 21 → ¬ (114 ≤ o ∧ o ≤ 118) → A' o = A o := hA.1
  have a0 : A' 0 = A 0 := a 0 (by decide) (by decide) (by decide) (by decide) (by decide) (by decide) (by decide) (by omega)
  have a119 : A' 119 = A 119 := a 119 (by decide) (by decide) (by decide) (by decide) (by decide) (by decide) (by decide) (by omega)
  have a120 : A' 120 = A 120 := a 120 (by decide) (by decide) (by decide) (by decide) (by decide) (by decide) (by decide) (by omega)
  have b : ∀ o, o ≠ 148 → o ≠ 152 → o ≠ 159 → o ≠ 160 → o ≠ 161 → B' o = B o := hB.1
  refine ⟨pastIs_of h.1 ⟨by rw [a0], by rw [a0], fun o q1 q2 => a o (by omega) (by omega) (by omega) (by omega) (by omega) (by omega) (by omega) (by omega)⟩ ⟨hB.2 4 (by decide), b 151 (by decide) (by decide) (by decide) (by decide) (by decide)⟩, imgIs_of h.2.1 ⟨by rw [a0], fun o q1 q2 => a o (by omega) (by omega) (by omega) (by omega) (by omega) (by omega) (by omega) (by omega)⟩ ⟨hB.2 5 (by decide), b 150 (by decide) (by decide) (by decide) (by decide) (by decide)⟩, tapeIs_of h.2.2 ⟨by rw [a119], by rw [a119], by rw [a119], a120⟩ ⟨hB.2 19 (by decide), hB.2 26 (by decide), hB.2 28 (by decide), b 158 (by decide) (by decide) (by decide) (by decide) (by decide)⟩⟩
theorem Inv2_scr {A A' B B' : ZI} (h : Inv2 A B) (hA : scrA A A') (hB : scrB B B') : Inv2 A' B' := by
  obtain ⟨n, k, c, b, h1, h2⟩ := h
  exact ⟨n, k, c, b, Inv5_scr h1 hA (hB.1 149 (by decide) (by decide) (by decide) (by decide) (by decide)), rest_scr h2 hA hB⟩
theorem Inv2_of {A A' B B' : ZI} (h : Inv2 A B) (hA : ∀ o, o < 148 → A' o = A o) (hB : ∀ o, 148 ≤ o → B' o = B o) : Inv2 A' B' := by
  obtain ⟨n, k, c, b, ⟨h1, h2, h3, h4, h5⟩, h6, h7, h8⟩ := h
  refine ⟨n, k, c, b, ?_, ?_, ?_, ?_⟩
  · unfold Inv5
    rw [hB 149 (by decide)]
    exact ⟨fixIs_of h1 (fun o ho => hA o (by omega)), h2, momIs_of h3 (fun o q1 q2 => hA o (by omega)), h4, bookIs_of h5 (fun o q1 q2 => hA o (by omega))⟩
  · exact pastIs_of h6 ⟨by rw [hA 0 (by decide)], by rw [hA 0 (by decide)], fun o q1 q2 => hA o (by omega)⟩ ⟨by rw [hB 148 (by decide)], hB 151 (by decide)⟩
  · exact imgIs_of h7 ⟨by rw [hA 0 (by decide)], fun o q1 q2 => hA o (by omega)⟩ ⟨by rw [hB 148 (by decide)], hB 150 (by decide)⟩
  · exact tapeIs_of h8 ⟨by rw [hA 119 (by decide)], by rw [hA 119 (by decide)], by rw [hA 119 (by decide)], hA 120 (by decide)⟩ ⟨by rw [hB 148 (by decide)], by rw [hB 148 (by decide)], by rw [hB 148 (by decide)], hB 158 (by decide)⟩
/-- a call goes in step -/
def sync (fC fR : ZI → Option (Int32 × ZI)) : Prop := ∀ A B, Inv2 A B → ∃ v A' B', fC A = some (v, A') ∧ fR B = some (v, B') ∧ Inv2 A' B' ∧ (∀ o, 148 ≤ o → A' o = A o) ∧ ∀ o, o < 148 → B' o = B o
theorem one_of_sync {fC fR : ZI → Option (Int32 × ZI)} (h : sync fC fR) {M : ZI} (hM : Inv2 M M) : ∃ v M1 M2, fC M = some (v, M1) ∧ fR M1 = some (v, M2) ∧ Inv2 M2 M2 := by
  obtain ⟨v, A1, B1, e1, e2, -, e4, -⟩ := h M M hM
  obtain ⟨v', A2, B2, f1, f2, f3, f4, f5⟩ := h M A1 (Inv2_of hM (fun _ _ => rfl) e4)
  have : (v, A1) = (v', A2) := Option.some.inj (e1.symm.trans f1)
  cases this
  exact ⟨v, A1, B2, e1, f2, Inv2_of f3 f5 (fun _ _ => rfl)⟩
/-- a call that leaves all but scratch as it was -/
theorem sync_q {fC fR : ZI → Option (Int32 × ZI)} (h : ∀ A B n k c b, Inv5 A B n k c b → ∃ v A' B', fC A = some (v, A') ∧ fR B = some (v, B') ∧ scrA A A' ∧ scrB B B' ∧ (∀ o, 148 ≤ o → A' o = A o) ∧ ∀ o, o < 148 → B' o = B o) : sync fC fR := by
  intro A B hI
  obtain ⟨n, k, c, b, h1, h2⟩ := id hI
  obtain ⟨v, A', B', e1, e2, e3, e4, e5, e6⟩ := h A B n k c b h1
  exact ⟨v, A', B', e1, e2, Inv2_scr hI e3 e4, e5, e6⟩
-- what can be undone
theorem copy_mom {A : ZI} {t a n : Nat} {v : Nat → Int32} (h : momIs A a v n) (hn : n ≤ 10) (hd : t + 4 < a ∨ a + 4 < t) : ∃ A', f21_copy t a A = some A' ∧ momIs A' t v n ∧ ∀ o, ¬ (t ≤ o ∧ o ≤ t + 4) → A' o = A o := by
  obtain ⟨⟨m1, m2, m3, m4, m5, m6, m7⟩, m8⟩ := h
  have e : ∀ q, ¬ (t ≤ q ∧ q ≤ t + 4) → ∀ d, d ≤ 4 → q ≠ t + d := fun q hq d hd => by omega
  refine ⟨_, rfl, ⟨?_, fun p hp => ?_⟩, fun o ho => ?_⟩
  · simp only [zs_ap, upd_ap, zc_ap, cpy_ap, Nat.reduceEqDiff, ↓reduceIte, if_neg (show ¬ a = t by omega), if_neg (show ¬ a = t + 1 by omega), if_neg (show ¬ a = t + 2 by omega), if_neg (show ¬ a = t + 3 by omega), if_neg (show ¬ a = t + 4 by omega)]
    exact ⟨m1, m2, m3, m4, m5, m6, m7⟩
  · obtain ⟨q1, q2, q3, q4⟩ := m8 p hp
    have hp10 : p < 10 := by omega
    simp only [zs_ap, upd_ap, zc_ap, cpy_ap, Nat.add_left_cancel_iff, Nat.reduceEqDiff, ↓reduceIte, if_pos hp10, if_neg (show ¬ t + 1 = t by omega), if_neg (show ¬ t + 2 = t by omega), if_neg (show ¬ t + 3 = t by omega), if_neg (show ¬ t + 4 = t by omega), if_neg (show ¬ a + 1 = t by omega), if_neg (show ¬ a + 1 = t + 1 by omega), if_neg (show ¬ a + 2 = t by omega), if_neg (show ¬ a + 2 = t + 1 by omega), if_neg (show ¬ a + 2 = t + 2 by omega), if_neg (show ¬ a + 3 = t by omega), if_neg (show ¬ a + 3 = t + 1 by omega), if_neg (show ¬ a + 3 = t + 2 by omega), if_neg (show ¬ a + 3 = t + 3 by omega), if_neg (show ¬ a + 4 = t by omega), if_neg (show ¬ a + 4 = t + 1 by omega), if_neg (show ¬ a + 4 = t + 2 by omega), if_neg (show ¬ a + 4 = t + 3 by omega), if_neg (show ¬ a + 4 = t + 4 by omega)]
    exact ⟨q1, q2, q3, q4⟩
  · simp only [zs_ap, zc_ap, if_neg (show ¬ o = t by omega), if_neg (show ¬ o = t + 1 by omega), if_neg (show ¬ o = t + 2 by omega), if_neg (show ¬ o = t + 3 by omega), if_neg (show ¬ o = t + 4 by omega)]
theorem zrem6 {x : Nat} (h : x < 13) : zrem (znn x) 6 = znn (x % 6) := by
  have : ∀ x : Fin 13, zrem (znn x.val) 6 = znn (x.val % 6) := by decide +kernel
  exact this ⟨x, h⟩
/-- the reference's row goes into the m-th place -/
theorem save_ref {B : ZI} {m : Nat} (hm : m < 6) (h4 : B 148 4 = znn m) : ∃ B', f200_l51 zfu 0 B = some B' ∧ (∀ o, o ≠ 151 → B' o = B o) ∧ (∀ x, x < 48 → B' 151 (48 * m + x) = B 149 x) ∧ ∀ j, ¬ (48 * m ≤ j ∧ j < 48 * m + 48) → B' 151 j = B 151 j := by
  obtain ⟨b, h1, h2⟩ := zloop (fun fu (b : ZI) c => f200_l51 fu c b) 48 (fun i b => (∀ o, o ≠ 151 → b o = B o) ∧ (∀ x, x < i → b 151 (48 * m + x) = B 149 x) ∧ ∀ j, ¬ (48 * m ≤ j ∧ j < 48 * m + i) → b 151 j = B 151 j) (fun b => (∀ o, o ≠ 151 → b o = B o) ∧ (∀ x, x < 48 → b 151 (48 * m + x) = B 149 x) ∧ ∀ j, ¬ (48 * m ≤ j ∧ j < 48 * m + 48) → b 151 j = B 151 j) (fun fu i b hi hb => by
    obtain ⟨g1, g2, g3⟩ := hb
    left
    (try dsimp only)
    rw [f200_l51, if_pos (show znn i < 48 by rw [zl48, zn_lt (by omega) (by decide)]; exact hi), g1 148 (by decide), h4, zl48, zn_mul, zn_add, if_pos ((zn_zin (by omega)).mpr (by omega)), if_pos ((zn_zin (by omega)).mpr (by omega)), zn_zi (by omega), zn_zi (by omega), zadd1, g1 149 (by decide)]
    simp only [zlet]
    refine ⟨_, ⟨fun o ho => ?_, fun x hx => ?_, fun j hj => ?_⟩, rfl⟩
    · rw [zs_ap, if_neg ho]; exact g1 o ho
    · rw [zs_ap, if_pos rfl, upd_ap]
      by_cases hxi : x = i
      · rw [if_pos (by omega), hxi]
      · rw [if_neg (by omega)]; exact g2 x (by omega)
    · rw [zs_ap, if_pos rfl, upd_ap, if_neg (by omega)]
      exact g3 j (by omega)) (fun fu b hb => by
    refine ⟨b, hb, ?_⟩
    (try dsimp only)
    rw [f200_l51, if_neg (by decide)]) zfu 0 B (by omega) (by rw [zfu_eq]; omega) ⟨fun _ _ => rfl, fun x hx => by omega, fun _ _ => rfl⟩
  exact ⟨b, h1, h2⟩
theorem shift_ref {B : ZI} : ∃ B', f200_l11 zfu 0 B = some B' ∧ (∀ o, o ≠ 151 → B' o = B o) ∧ ∀ j, j < 240 → B' 151 j = B 151 (j + 48) := by
  obtain ⟨b, h1, h2, h3, -⟩ := zloop (fun fu (b : ZI) c => f200_l11 fu c b) 240 (fun i b => (∀ o, o ≠ 151 → b o = B o) ∧ (∀ j, j < i → b 151 j = B 151 (j + 48)) ∧ ∀ j, i ≤ j → b 151 j = B 151 j) (fun b => (∀ o, o ≠ 151 → b o = B o) ∧ (∀ j, j < 240 → b 151 j = B 151 (j + 48)) ∧ True) (fun fu i b hi hb => by
    obtain ⟨g1, g2, g3⟩ := hb
    left
    (try dsimp only)
    rw [f200_l11, if_pos (show znn i < 240 by rw [zl240, zn_lt (by omega) (by decide)]; exact hi), zl48, zn_add, if_pos ((zn_zin (by omega)).mpr (by omega)), if_pos ((zn_zin (by omega)).mpr (by omega)), zn_zi (by omega), zn_zi (by omega), zadd1]
    simp only [zlet]
    refine ⟨_, ⟨fun o ho => ?_, fun j hj => ?_, fun j hj => ?_⟩, rfl⟩
    · rw [zs_ap, if_neg ho]; exact g1 o ho
    · rw [zs_ap, if_pos rfl, upd_ap]
      by_cases hxi : j = i
      · rw [if_pos hxi, hxi]; exact g3 _ (by omega)
      · rw [if_neg hxi]; exact g2 j (by omega)
    · rw [zs_ap, if_pos rfl, upd_ap, if_neg (by omega)]
      exact g3 j (by omega)) (fun fu b hb => by
    refine ⟨b, ⟨hb.1, hb.2.1, trivial⟩, ?_⟩
    (try dsimp only)
    rw [f200_l11, if_neg (by decide)]) zfu 0 B (by omega) (by rw [zfu_eq]; omega) ⟨fun _ _ => rfl, fun x hx => by omega, fun _ _ => rfl⟩
  exact ⟨b, h1, h2, h3⟩
def keepA (A A' : ZI) : Prop := (∀ o, o ≠ 0 → ¬ (84 ≤ o ∧ o < 114) → A' o = A o) ∧ ∀ j, j ≠ 4 → j ≠ 5 → A' 0 j = A 0 j
def keepB (B B' : ZI) : Prop := (∀ o, o ≠ 148 → o ≠ 151 → B' o = B o) ∧ ∀ j, j ≠ 4 → B' 148 j = B 148 j
theorem keep_eq {A B : ZI} {n : Nat} (h : pastIs A B n) (hn : n ≤ 10) (hm : momIs A 2 (B 149) n) (hmo : momOk (B 149) n 999) : ∃ A' B', f20_keepPast A = some A' ∧ f200_keeps B = some B' ∧ pastIs A' B' n ∧ keepA A A' ∧ keepB B B' := by
  -- once there is room
  have core : ∀ (A1 B1 : ZI) (o m : Nat), o < 6 → m < 6 → A1 0 4 = znn o → A1 0 5 = znn m → B1 148 4 = znn m → (∀ j, j < m → momIs A1 (84 + 5 * ((o + j) % 6)) (fun x => B1 151 (48 * j + x)) n ∧ momOk (fun x => B1 151 (48 * j + x)) n 999) → (∀ q, q ≠ 0 → A1 q = A q) → (∀ j, j ≠ 4 → j ≠ 5 → A1 0 j = A 0 j) → (∀ q, q ≠ 148 → q ≠ 151 → B1 q = B q) → (∀ j, j ≠ 4 → B1 148 j = B 148 j) →
      ∃ A' B', ((if zin (zrem ((A1 0 4) + (A1 0 5)) (6 : Int32)) 6 = true then (f21_copy (zpa (zrem ((A1 0 4) + (A1 0 5)) (6 : Int32))) 2 A1).bind fun M5 => zlet (zs M5 0 5 ((M5 0 5) + (1 : Int32))) fun (M6 : ZI) => some M6 else none) : Option ZI) = some A' ∧ ((f200_l51 zfu (0 : Int32) B1).bind fun M6 => zlet (zs M6 148 4 ((M6 148 4) + (1 : Int32))) fun (M8 : ZI) => some M8) = some B' ∧ pastIs A' B' n ∧ keepA A A' ∧ keepB B B' := by
    intro A1 B1 o m ho hm6 h1 h2 h3 h4 h5 h6 h7 h8
    have hmod := Nat.mod_lt (o + m) (show 0 < 6 by decide)
    have hm1 : momIs A1 2 (B 149) n := momIs_of hm (fun q q1 q2 => h5 q (by omega))
    obtain ⟨A2, e1, e2, e3⟩ := copy_mom (t := 84 + 5 * ((o + m) % 6)) hm1 hn (by omega)
    obtain ⟨B2, f1, f2, f3, f4⟩ := save_ref hm6 h3
    rw [h1, h2, zn_add, zrem6 (by omega), if_pos ((zn_zin (by omega)).mpr hmod), show zpa (znn ((o + m) % 6)) = 84 + 5 * ((o + m) % 6) by rw [zpa, zn_zi (by omega)], e1, f1]
    refine ⟨zs A2 0 5 (A2 0 5 + 1), zs B2 148 4 (B2 148 4 + 1), rfl, rfl, ⟨o, m + 1, ho, by omega, ?_, ?_, ?_, ?_⟩, ⟨?_, ?_⟩, ⟨?_, ?_⟩⟩
    · rw [zs_ap, if_pos rfl, upd_ap, if_neg (by decide), e3 0 (by omega)]; exact h1
    · rw [zs_ap, if_pos rfl, upd_ap, if_pos rfl, e3 0 (by omega), h2, zadd1]
    · rw [zs_ap, if_pos rfl, upd_ap, if_pos rfl, f2 148 (by decide), h3, zadd1]
    · intro j hj
      have hr : (zs B2 148 4 (B2 148 4 + 1)) 151 = B2 151 := by rw [zs_ap, if_neg (by decide)]
      rw [hr]
      have hA' : ∀ q, q ≠ 0 → (zs A2 0 5 (A2 0 5 + 1)) q = A2 q := fun q hq => by rw [zs_ap, if_neg hq]
      by_cases hjm : j = m
      · subst hjm
        have hrow : ∀ x, x < 48 → B2 151 (48 * j + x) = B 149 x := fun x hx => (f3 x hx).trans (by rw [h7 149 (by decide) (by decide)])
        exact ⟨momIs_row (momIs_of e2 (fun q q1 q2 => hA' q (by omega))) hn hrow, momOk_row hmo hn hrow⟩
      · have hrow : ∀ x, x < 48 → B2 151 (48 * j + x) = B1 151 (48 * j + x) := fun x hx => f4 _ (by omega)
        obtain ⟨g1, g2⟩ := h4 j (by omega)
        have hne : (o + j) % 6 ≠ (o + m) % 6 := by omega
        have hmod2 := Nat.mod_lt (o + j) (show 0 < 6 by decide)
        exact ⟨momIs_row (momIs_of g1 (fun q q1 q2 => (hA' q (by omega)).trans (e3 q (by omega)))) hn hrow, momOk_row g2 hn hrow⟩
    · intro q q1 q2
      rw [zs_ap, if_neg q1, e3 q (by omega)]
      exact h5 q q1
    · intro j q1 q2
      rw [zs_ap, if_pos rfl, upd_ap, if_neg q2, e3 0 (by omega)]
      exact h6 j q1 q2
    · intro q q1 q2
      rw [zs_ap, if_neg q1, f2 q q2]
      exact h7 q q1 q2
    · intro j q1
      rw [zs_ap, if_pos rfl, upd_ap, if_neg q1, f2 148 (by decide)]
      exact h8 j q1
  obtain ⟨o, m, ho, hm6, h1, h2, h3, h4⟩ := h
  unfold f20_keepPast f200_keeps
  rw [h2, h3]
  by_cases hf : m = 6
  · subst hf
    rw [if_pos (show znn 6 = 6 from rfl)]
    simp only [zlet]
    obtain ⟨B1, e1, e2, e3⟩ := shift_ref (B := B)
    rw [h1, show znn o + 1 = znn (o + 1) from zn_add o 1, zrem6 (by omega)]
    have := core (zs (zs A 0 4 (znn ((o + 1) % 6))) 0 5 (znn 6 - 1)) (zs B1 148 4 (B1 148 4 - 1)) ((o + 1) % 6) 5 (Nat.mod_lt _ (by decide)) (by decide) (by rw [zs_ap, if_pos rfl, upd_ap, if_neg (by decide), zs_ap, if_pos rfl, upd_ap, if_pos rfl]) (by rw [zs_ap, if_pos rfl, upd_ap, if_pos rfl]; rfl) (by rw [zs_ap, if_pos rfl, upd_ap, if_pos rfl, e2 148 (by decide), h3]; rfl) (fun j hj => by
      obtain ⟨g1, g2⟩ := h4 (j + 1) (by omega)
      have hr : (zs B1 148 4 (B1 148 4 - 1)) 151 = B1 151 := by rw [zs_ap, if_neg (by decide)]
      rw [hr, show ((o + 1) % 6 + j) % 6 = (o + (j + 1)) % 6 by omega]
      have hrow : ∀ x, x < 48 → B1 151 (48 * j + x) = B 151 (48 * (j + 1) + x) := fun x hx => (e3 _ (by omega)).trans (by rw [show 48 * j + x + 48 = 48 * (j + 1) + x by omega])
      have hmod2 := Nat.mod_lt (o + (j + 1)) (show 0 < 6 by decide)
      exact ⟨momIs_row (momIs_of g1 (fun q q1 q2 => by rw [zs_ap, if_neg (by omega), zs_ap, if_neg (by omega)])) hn hrow, momOk_row g2 hn hrow⟩) (fun q hq => by rw [zs_ap, if_neg hq, zs_ap, if_neg hq]) (fun j q1 q2 => by rw [zs_ap, if_pos rfl, upd_ap, if_neg q2, zs_ap, if_pos rfl, upd_ap, if_neg q1]) (fun q q1 q2 => by rw [zs_ap, if_neg q1]; exact e2 q q2) (fun j q1 => by rw [zs_ap, if_pos rfl, upd_ap, if_neg q1, e2 148 (by decide)])
    obtain ⟨A', B', a1, a2, a3⟩ := this
    refine ⟨A', B', ?_, ?_, a3⟩
    · rw [← a1]
      have : (zs A 0 4 (znn ((o + 1) % 6))) 0 5 = znn 6 := by rw [zs_ap, if_pos rfl, upd_ap, if_neg (by decide), h2]
      rw [this]
      rfl
    · rw [if_pos (show znn 6 = 6 from rfl), e1]
      simp only [Option.bind_some]
      exact a2
  · rw [if_neg (show ¬ znn m = 6 by rw [zl6, zn_eq (by omega) (by decide)]; exact hf)]
    simp only [zlet]
    rw [if_neg (show ¬ znn m = 6 by rw [zl6, zn_eq (by omega) (by decide)]; exact hf)]
    simp only [Option.bind_some]
    exact core A B o m ho (by omega) h1 h2 h3 h4 (fun _ _ => rfl) (fun _ _ _ => rfl) (fun _ _ _ => rfl) (fun _ _ => rfl)
