-- ===== a YEAR in a LAND and in the reference =====
theorem upd_comm {f : Nat → Int32} {i j : Nat} {x y : Int32} (h : i ≠ j) : upd (upd f i x) j y = upd (upd f j y) i x := by
  funext a
  unfold upd
  by_cases h1 : a = j
  · rw [if_pos h1, if_neg (fun hh => h (hh.symm.trans h1)), if_pos h1]
  · rw [if_neg h1, if_neg h1]
theorem upd_at (f : Nat → Int32) (i : Nat) (x : Int32) : upd f i x i = x := by unfold upd; rw [if_pos rfl]
theorem upd_no {f : Nat → Int32} {i j : Nat} {x : Int32} (h : j ≠ i) : upd f i x j = f j := by unfold upd; rw [if_neg h]
theorem sNote_upd {w : Nat → Int32} {x y z v : Int32} {i : Nat} (hi : i < 578) (h0 : i ≠ 0) (h5 : i ≠ 5) : sNote (upd w i v) x y z = upd (sNote w x y z) i v := by
  unfold sNote
  rw [upd_no (fun h => h5 h.symm), upd_no (fun h => h0 h.symm)]
  split
  · rfl
  · rw [upd_comm (i := i) (by omega), upd_comm (i := i) (by omega), upd_comm (i := i) (by omega), upd_comm (i := i) (by omega), upd_comm (i := i) (by omega)]
theorem upd_F {w : Nat → Int32} {i : Nat} {x : Int32} (hi : i < 48) : rowF w (upd w i x) := fun j h1 _ => upd_no (by omega)
theorem grow_r {B : ZI} {v : Nat → Int32} {x : Int32} {n : Nat} (hn : n ≤ 10) (h48 : v 48 = znn n) (hx : (x = -1 ∧ B 149 = v) ∨ ∃ p, p < n ∧ x = znn p ∧ B 149 = upd v (37 + p) (-1)) : f204_l93 zfu 0 B = some (zw B 149 (growR v x n)) := by
  have e48 : B 149 48 = znn n := by
    rcases hx with ⟨-, h⟩ | ⟨p, hp, -, h⟩
    · rw [h]; exact h48
    · rw [h, upd_no (by omega)]; exact h48
  obtain ⟨B', h1, h2, h3, h4⟩ := grow_ref (B := B) rfl hn e48
  rw [h1]
  congr 1
  funext o
  unfold zw
  by_cases ho : o = 149
  · subst ho
    rw [if_pos rfl]
    funext j
    by_cases hj : 37 ≤ j ∧ j < 37 + n
    · obtain ⟨q, hq, rfl⟩ : ∃ q, q < n ∧ j = 37 + q := ⟨j - 37, by omega, by omega⟩
      rw [(h3 q hq).1, growR_37 hq]
      rcases hx with ⟨hx, h⟩ | ⟨p, hp, hx, h⟩
      · rw [h, hx, if_neg (fun hh => zn_ne_neg (by omega) hh.symm)]
      · rw [h, hx]
        by_cases hpq : p = q
        · subst hpq
          rw [upd_at, if_pos rfl]
          rfl
        · rw [upd_no (by omega), if_neg (by rw [zn_eq (by omega) (by omega)]; exact hpq)]
    · by_cases hj2 : 17 ≤ j ∧ j < 17 + n
      · obtain ⟨q, hq, rfl⟩ : ∃ q, q < n ∧ j = 17 + q := ⟨j - 17, by omega, by omega⟩
        rw [(h3 q hq).2, growR_17 hn hq]
        rcases hx with ⟨hx, h⟩ | ⟨p, hp, hx, h⟩
        · rw [h]
        · rw [h, upd_no (by omega)]
      · rw [h4 j hj hj2, growR_lo hj hj2]
        rcases hx with ⟨hx, h⟩ | ⟨p, hp, hx, h⟩
        · rw [h]
        · rw [h, upd_no (by omega)]
  · rw [if_neg ho]
    exact h2 o ho
theorem land_field {M : ZI} {R : ZF} {L : ZY} {t b n k j i : Nat} {w : Nat → Int32} {x : Int32} (h : landIs M R L t b w n k) (hk : k ≤ 9) (hn : n ≤ 10) (hr : ruleOk w) (hji : (j = 0 ∧ i = 4) ∨ (j = 1 ∧ i = 0) ∨ (j = 2 ∧ i = 1) ∨ (j = 5 ∧ i = 2) ∨ (j = 6 ∧ i = 3) ∨ (j = 9 ∧ i = 6)) : landIs (zs M t j x) R L t b (upd w i x) n k ∧ hFr (ownL t b n) M R L (zs M t j x) R L := by
  obtain ⟨⟨o1, o2, o3, o4, o5, o6⟩, ⟨f0, f1, f2, f3, f4, f5, f6, f7, f8, f9⟩, ⟨hb, hP⟩, hW, hB, hC, hLw⟩ := id h
  have hfr : hFr (ownL t b n) M R L (zs M t j x) R L := ⟨⟨[], by simp⟩, fun c hc ho => ⟨zs_df (fun hh => ho (Or.inl hh)), rfl⟩⟩
  have hi : i < 7 ∧ i ≠ 5 := by omega
  refine ⟨landIs_step h hk (upd_F (by omega)) hr hfr ⟨o1, o2, o3, o4, o5, o6⟩ ?_ ⟨hb, fun p hp => ?_⟩ (fun i' hi' => ?_) rfl rfl rfl, hfr⟩
  · unfold lndF
    simp only [zs_sm, upd_ap]
    rcases hji with ⟨rfl, rfl⟩ | ⟨rfl, rfl⟩ | ⟨rfl, rfl⟩ | ⟨rfl, rfl⟩ | ⟨rfl, rfl⟩ | ⟨rfl, rfl⟩ <;> simp [f0, f1, f2, f3, f4, f5, f6, f7, f8, f9]
  · obtain ⟨p1, p2, p3⟩ := hP p hp
    have bt : b + p ≠ t := by intro hh; rw [hh, o1] at p2; cases p2
    refine ⟨p1, p2, ?_⟩
    unfold lndQ
    rw [zs_df bt, upd_no (by omega), upd_no (by omega), upd_no (by omega), upd_no (by omega), upd_no (by omega), upd_no (by omega), upd_no (by omega)]
    exact p3
  · rw [upd_no (by omega)] at hi'
    obtain ⟨r, r1, r2, r3, r4⟩ := hB i' hi'
    have rt : r ≠ t := by intro hh; rw [hh, o1] at r3; cases r3
    exact ⟨r, r1, r2, r3, fun f hf => by rw [zs_df rt, r4 f hf, upd_no (by omega)]⟩
theorem land_had {M : ZI} {R : ZF} {L : ZY} {t b n k p : Nat} {w : Nat → Int32} {x : Int32} (h : landIs M R L t b w n k) (hk : k ≤ 9) (hn : n ≤ 10) (hr : ruleOk w) (hp : p < n) : landIs (zs M (b + p) 3 x) R L t b (upd w (27 + p) x) n k ∧ hFr (ownL t b n) M R L (zs M (b + p) 3 x) R L := by
  obtain ⟨⟨o1, o2, o3, o4, o5, o6⟩, ⟨f0, f1, f2, f3, f4, f5, f6, f7, f8, f9⟩, ⟨hb, hP⟩, hW, hB, hC, hLw⟩ := id h
  have hfr : hFr (ownL t b n) M R L (zs M (b + p) 3 x) R L := ⟨⟨[], by simp⟩, fun c hc ho => ⟨zs_df (fun hh => ho (Or.inr (Or.inr (Or.inr ⟨by omega, by omega⟩)))), rfl⟩⟩
  have hpt : b + p ≠ t := by intro hh; have := (hP p hp).2.1; rw [hh, o1] at this; cases this
  refine ⟨landIs_step h hk (upd_F (by omega)) hr hfr ⟨o1, o2, o3, o4, o5, o6⟩ ?_ ⟨hb, fun q hq => ?_⟩ (fun i' hi' => ?_) rfl rfl rfl, hfr⟩
  · unfold lndF
    rw [zs_df hpt.symm, upd_no (by omega), upd_no (by omega), upd_no (by omega), upd_no (by omega), upd_no (by omega), upd_no (by omega), upd_no (by omega), upd_no (by omega), upd_no (by omega), upd_no (by omega)]
    exact ⟨f0, f1, f2, f3, f4, f5, f6, f7, f8, f9⟩
  · obtain ⟨p1, p2, q0, q1, q2, q3, q4, q5, q6⟩ := hP q hq
    refine ⟨p1, p2, ?_⟩
    unfold lndQ
    by_cases hqp : q = p
    · subst hqp
      simp only [zs_sm]
      rw [upd_no (by omega), upd_no (by omega), upd_no (by omega), upd_at, upd_no (by omega), upd_no (by omega), upd_no (by omega)]
      exact ⟨q0, q1, q2, rfl, q4, q5, q6⟩
    · rw [zs_df (by omega), upd_no (by omega), upd_no (by omega), upd_no (by omega), upd_no (by omega), upd_no (by omega), upd_no (by omega), upd_no (by omega)]
      exact ⟨q0, q1, q2, q3, q4, q5, q6⟩
  · rw [upd_no (by omega)] at hi'
    obtain ⟨r, r1, r2, r3, r4⟩ := hB i' hi'
    have rt : r ≠ b + p := by intro hh; have := (hP p hp).2.1; rw [← hh, r3] at this; cases this
    exact ⟨r, r1, r2, r3, fun f hf => by rw [zs_df rt, r4 f hf, upd_no (by omega)]⟩
/-- the YEAR's end, as both have it -/
theorem land_fin {M : ZI} {R : ZF} {L : ZY} {t b n k : Nat} {w : Nat → Int32} {x : Int32} (h : landIs M R L t b w n k) (hL : L.length ≤ 900000) (hn : n ≤ 10) (hk : k ≤ 9) (h48 : w 48 = znn n) (hr : ruleOk w) :
    ∃ M', ((g98_l245 t x R L zfu 0 M).bind fun M44 => if gob L t 10 = true then some (x, zs M44 t 1 (M44 t 1 + 1), R, L) else none) = some (x, M', R, L) ∧ landIs M' R L t b (upd (growR w x n) 0 (w 0 + 1)) n k ∧ hFr (ownL t b n) M R L M' R L := by
  obtain ⟨M1, h1, h2, h3⟩ := land_grow (x := x) h hL hn hk h48 hr
  obtain ⟨h4, h5⟩ := land_field (j := 1) (i := 0) (x := w 0 + 1) h2 hk hn (ruleOk_row (growR_F hn) hr) (by omega)
  refine ⟨_, ?_, h4, hFr_trans h3 h5⟩
  have e : M1 t 1 = w 0 := by
    obtain ⟨-, ⟨-, f1, -⟩, -⟩ := h2
    rw [f1, growR_lo (by omega) (by omega)]
  rw [h1]
  simp only [Option.bind_some]
  rw [if_pos (gob_of h.1.1 (lay_lt h.1.1 hL)), e]
theorem fin_r {B : ZI} {v : Nat → Int32} {x : Int32} {n : Nat} (hn : n ≤ 10) (h48 : v 48 = znn n) (hx : (x = -1 ∧ B 149 = v) ∨ ∃ p, p < n ∧ x = znn p ∧ B 149 = upd v (37 + p) (-1)) : ((f204_l93 zfu 0 B).bind fun M18 => some (x, zs M18 149 0 (M18 149 0 + 1))) = some (x, zw B 149 (upd (growR v x n) 0 (v 0 + 1))) := by
  rw [grow_r hn h48 hx]
  simp only [Option.bind_some]
  unfold zs
  rw [zw_self, zw_zw, growR_lo (by omega) (by omega)]

def sDay (w : Nat → Int32) (k d x p : Nat) : Nat → Int32 := sWk (sNote (rowG w k d x) 0 (znn p) (znn (wSum w 1 x k))) x k
def sHad (w : Nat → Int32) (k d x p : Nat) : Nat → Int32 := upd (upd (sDay w k d x p) (27 + p) (sDay w k d x p (27 + p) + 1)) 1 (zmin 24 (sDay w k d x p 1 + sAsk (rowG w k d x) 21 p (wSum w 1 x k)))
def sDrw (v : Nat → Int32) : Nat → Int32 := upd v 4 (1664525 * v 4 + 1013904223)
def sGets (w : Nat → Int32) (k d x p : Nat) : Nat → Int32 :=
  if zrem (zushr (sDrw (sHad w k d x p) 4) 8) 1000 < sAsk (rowG w k d x) 22 p (wSum w 1 x k) then sNote (upd (sDrw (sHad w k d x p)) 2 (sDrw (sHad w k d x p) 2 + 1)) 4 (znn p) 0 else sDrw (sHad w k d x p)
theorem sDay_facts {w : Nat → Int32} {k d x p l : Nat} (hl : l ≤ 150) (h5 : w 5 = znn l) : (∃ l', l' ≤ 150 ∧ sDay w k d x p 5 = znn l') ∧ (∀ j, j ≠ 5 → (j < 578 ∨ 1178 ≤ j) → sDay w k d x p j = rowG w k d x j) ∧ ∃ l1, l1 ≤ 150 ∧ sNote (rowG w k d x) 0 (znn p) (znn (wSum w 1 x k)) 5 = znn l1 := by
  have h5' : rowG w k d x 5 = znn l := by rw [rowG_lo (by decide) (by decide)]; exact h5
  obtain ⟨l1, a1, a2, a3⟩ := sNote_5 (x := 0) (y := znn p) (z := znn (wSum w 1 x k)) hl h5'
  obtain ⟨l2, b1, b2, b3⟩ := sWk_5 (s := x) a1 a3 k
  refine ⟨⟨l2, b1, b3⟩, fun j hj5 hj => ?_, ⟨l1, a1, a3⟩⟩
  unfold sDay
  rw [sWk_lo a1 a3 hj5 hj, sNote_lo hj5 hj (by rw [h5', zn_zi (by omega)]; exact hl)]
theorem gets_r {B : ZI} {w : Nat → Int32} {n k c b Y p e d l : Nat} (hw : B 149 = w) (hp : p < n) (hok : fixOk w n k c b) (hmo : momOk w n Y) (h1 : w 1 = znn e) (he : e ≤ 24) (h6 : w 6 = znn d) (hd : d < 4096) (hl : l ≤ 150) (h5 : w 5 = znn l) (h30 : B 148 30 = 1) {x : Nat} (hx : pBest w k p (24 - e) d (2 ^ k) x) :
    ∃ B1, f218_gets (znn p) B = some (zw B1 149 (upd (sGets w k d x p) (37 + p) (-1))) ∧ ∀ o, o ≠ 149 → o ≠ 159 → o ≠ 160 → B1 o = B o := by
  have hn : n ≤ 10 := hok.1.1
  have hk12 : k ≤ 12 := hok.2.2.1.1
  obtain ⟨x1, x2, x3⟩ := pBest_4096 hk12 hx
  obtain ⟨B1, g1, g2, g3⟩ := give_ref hw hp hok hmo h1 he h6 hd hx
  obtain ⟨⟨l2, l3, l4⟩, lo, l5, l6, l7⟩ := sDay_facts (k := k) (d := d) (x := x) (p := p) hl h5
  have b30 : ∀ g, (zw B1 149 g) 148 30 = 1 := fun g => by rw [zw_ne _ _ (by decide), g3 148 (by decide) (by decide) (by decide)]; exact h30
  have h30' : B1 148 30 = 1 := by rw [g3 148 (by decide) (by decide) (by decide)]; exact h30
  have e5 : B1 149 5 = znn l := by rw [g2, rowG_lo (by decide) (by decide)]; exact h5
  have hF1 : rowF w (rowG w k d x) := rowG_F
  have hF2 : rowF w (sNote (rowG w k d x) 0 (znn p) (znn (wSum w 1 x k))) := rowF_trans hF1 (sNote_F (by rw [rowG_lo (by decide) (by decide), h5, zn_zi (by omega)]; exact hl))
  have hw2 : wrkOk (sNote (rowG w k d x) 0 (znn p) (znn (wSum w 1 x k))) n k := (fixOk_row hF2 hok).2.2.1
  have z27 : zin (27 + znn p) 2064 = true := by rw [zl27, zn_add]; exact (zn_zin (by omega)).mpr (by omega)
  have z37 : zin (37 + znn p) 2064 = true := by rw [zl37, zn_add]; exact (zn_zin (by omega)).mpr (by omega)
  have y27 : zi (27 + znn p) = 27 + p := by rw [zl27, zn_add, zn_zi (by omega)]
  have y37 : zi (37 + znn p) = 37 + p := by rw [zl37, zn_add, zn_zi (by omega)]
  refine ⟨B1, ?_, g3⟩
  rw [g1, note_r h30' hl e5, g2]
  simp only [Option.bind_some]
  rw [works_r (b30 _) l6 (by rw [zw_self]; exact l7) (by rw [zw_self]; exact hw2) x2]
  simp only [Option.bind_some, zw_self, zw_zw]
  rw [if_pos z27, if_pos z27, y27]
  rw [show sWk (sNote (rowG w k d x) 0 (znn p) (znn (wSum w 1 x k))) x k = sDay w k d x p from rfl]
  simp only [zlet, zs, z37, y37, if_true, zw_self, zw_zw, les_eq, Option.bind_some]
  rw [b30, if_neg (by decide)]
  unfold f227_draw
  simp only [zlet, zs, zw_self, zw_zw]
  rw [if_neg (by decide)]
  simp only [Option.bind_some]
  have n1 : (37 + p) ≠ 1 := by omega
  have n4 : (37 + p) ≠ 4 := by omega
  have n2 : (37 + p) ≠ 2 := by omega
  have rowE : upd (upd (upd (sDay w k d x p) (27 + p) (sDay w k d x p (27 + p) + 1)) (37 + p) (-1)) 1 (zmin 24 (upd (upd (sDay w k d x p) (27 + p) (sDay w k d x p (27 + p) + 1)) (37 + p) (-1) 1 + sAsk (rowG w k d x) 21 p (wSum w 1 x k))) = upd (sHad w k d x p) (37 + p) (-1) := by
    rw [upd_no (show (1 : Nat) ≠ 37 + p by omega), upd_no (show (1 : Nat) ≠ 27 + p by omega), upd_comm n1]
    rfl
  rw [rowE]
  have rowD : upd (upd (sHad w k d x p) (37 + p) (-1)) 4 (1664525 * upd (sHad w k d x p) (37 + p) (-1) 4 + 1013904223) = upd (sDrw (sHad w k d x p)) (37 + p) (-1) := by
    rw [upd_no (show (4 : Nat) ≠ 37 + p by omega), upd_comm n4]
    rfl
  rw [rowD, upd_no (show (4 : Nat) ≠ 37 + p by omega)]
  simp only [zw_self, zw_zw]
  rw [upd_no (show (2 : Nat) ≠ 37 + p by omega)]
  unfold sGets
  by_cases hc : zrem (zushr (sDrw (sHad w k d x p) 4) 8) 1000 < sAsk (rowG w k d x) 22 p (wSum w 1 x k)
  · rw [if_pos hc, if_pos hc]
    have e5b : upd (upd (sDrw (sHad w k d x p)) (37 + p) (-1)) 2 (sDrw (sHad w k d x p) 2 + 1) 5 = znn l2 := by
      rw [upd_no (by decide), upd_no (by omega)]
      unfold sDrw sHad
      rw [upd_no (by decide), upd_no (by decide), upd_no (by omega)]
      exact l4
    rw [note_r (b30 _) l3 (by rw [zw_self]; exact e5b)]
    simp only [Option.bind_some, zw_self, zw_zw]
    rw [upd_comm n2, sNote_upd (by omega) (by omega) (by omega)]
  · rw [if_neg hc, if_neg hc]
