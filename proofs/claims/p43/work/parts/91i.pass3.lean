-- ===== a whole YEAR in a LAND and in the reference =====
theorem bind_id {α : Type} (o : Option α) : (o.bind fun x => some x) = o := by cases o <;> rfl
theorem land_rest {M : ZI} {R : ZF} {L : ZY} {t b n k l : Nat} {w : Nat → Int32} {kd : Int32} (h : landIs M R L t b w n k) (hL : L.length ≤ 600000) (hn : n ≤ 10) (hk : k ≤ 9) (hr : ruleOk w) (h48 : w 48 = znn n) (hl : l ≤ 150) (h5 : w 5 = znn l) :
    ∃ M' R' L', ((g99_notes t kd (-1) 0 1 M R L).bind fun (M3, R4, L5) => ((g98_l245 t (-1) R4 L5 zfu 0 M3).bind fun M44 => if gob L5 t 10 = true then some ((-1 : Int32), zs M44 t 1 (M44 t 1 + 1), R4, L5) else none)) = some ((-1 : Int32), M', R', L') ∧ landIs M' R' L' t b (upd (growR (sNote w kd (-1) 0) (-1) n) 0 (w 0 + 1)) n k ∧ hFr (ownL t b n) M R L M' R' L' ∧ (∃ X, L' = L ++ X ∧ X.length ≤ 1 ∧ (X.map Prod.snd).sum ≤ 4) ∧ R' t = R t := by
  obtain ⟨M1, R1, L1, a1, a2, a3, ⟨X, a4, a5, a6⟩, a7⟩ := land_note (x := kd) (y := -1) (z := 0) h (by omega) hn hk hr hl h5
  have hz : zi (w 5) ≤ 150 := by rw [h5, zn_zi (by omega)]; exact hl
  have hL1 : L1.length ≤ 900000 := by rw [a4]; simp; omega
  obtain ⟨M2, b1, b2, b3⟩ := land_fin (x := -1) a2 hL1 hn hk (by rw [sNote_lo (by decide) (by decide) hz]; exact h48) (ruleOk_row (sNote_F hz) hr)
  rw [a1]
  simp only [Option.bind_some]
  rw [sNote_lo (by decide) (by decide) hz] at b2
  exact ⟨M2, R1, L1, b1, b2, hFr_trans a3 b3, ⟨X, a4, a5, a6⟩, a7⟩
theorem rest_r {B : ZI} {n l : Nat} {w : Nat → Int32} {kd : Int32} (hw : B 149 = w) (h30 : B 148 30 = 1) (hn : n ≤ 10) (h48 : w 48 = znn n) (hl : l ≤ 150) (h5 : w 5 = znn l) :
    ((f217_notes kd (-1) 0 B).bind fun M11 => ((f204_l93 zfu 0 M11).bind fun M18 => some ((-1 : Int32), zs M18 149 0 (M18 149 0 + 1)))) = some (-1, zw B 149 (upd (growR (sNote w kd (-1) 0) (-1) n) 0 (w 0 + 1))) := by
  have hz : zi (w 5) ≤ 150 := by rw [h5, zn_zi (by omega)]; exact hl
  rw [note_r h30 hl (by rw [hw]; exact h5), hw]
  simp only [Option.bind_some]
  rw [fin_r (v := sNote w kd (-1) 0) hn (by rw [sNote_lo (by decide) (by decide) hz]; exact h48) (Or.inl ⟨rfl, zw_self _ _ _⟩), zw_zw, sNote_lo (by decide) (by decide) hz]
/-- the lines of THE BOOK that were there stay -/
def lnK (w w' : Nat → Int32) : Prop := (∃ l', l' ≤ 150 ∧ w' 5 = znn l' ∧ zi (w 5) ≤ l') ∧ ∀ i f, i < zi (w 5) → f < 4 → w' (578 + 4 * i + f) = w (578 + 4 * i + f)
theorem lnK_trans {w w1 w2 : Nat → Int32} (h1 : lnK w w1) (h2 : lnK w1 w2) : lnK w w2 := by
  obtain ⟨⟨l1, a1, a2, a3⟩, a4⟩ := h1
  obtain ⟨⟨l2, b1, b2, b3⟩, b4⟩ := h2
  have e : zi (w1 5) = l1 := by rw [a2, zn_zi (by omega)]
  rw [e] at b3 b4
  exact ⟨⟨l2, b1, b2, by omega⟩, fun i f hi hf => by rw [b4 i f (by omega) hf, a4 i f hi hf]⟩
theorem lnK_lo {w w' : Nat → Int32} {l : Nat} (hl : l ≤ 150) (h5 : w 5 = znn l) (h : ∀ j, j = 5 ∨ 578 ≤ j → w' j = w j) : lnK w w' := by
  have e : zi (w 5) = l := by rw [h5, zn_zi (by omega)]
  exact ⟨⟨l, hl, by rw [h 5 (Or.inl rfl)]; exact h5, by omega⟩, fun i f hi hf => h _ (Or.inr (by omega))⟩
theorem lnK_note {w : Nat → Int32} {x y z : Int32} {l : Nat} (hl : l ≤ 150) (h5 : w 5 = znn l) : lnK w (sNote w x y z) := by
  have e : zi (w 5) = l := by rw [h5, zn_zi (by omega)]
  unfold sNote
  by_cases h : zi (w 5) = 150
  · rw [if_pos h]
    exact lnK_lo hl h5 (fun _ _ => rfl)
  · rw [if_neg h, e]
    refine ⟨⟨l + 1, by omega, by rw [upd_ap, if_pos rfl, h5, zadd1], by omega⟩, fun i f hi hf => ?_⟩
    rw [e] at hi
    simp only [upd_ap]
    rw [if_neg (by omega), if_neg (by omega), if_neg (by omega), if_neg (by omega), if_neg (by omega)]
theorem lnK_5 {w w' : Nat → Int32} (h : lnK w w') : ∃ l, l ≤ 150 ∧ w' 5 = znn l := by
  obtain ⟨⟨l, a1, a2, -⟩, -⟩ := h
  exact ⟨l, a1, a2⟩
theorem lnK_wk {w : Nat → Int32} {s l : Nat} (hl : l ≤ 150) (h5 : w 5 = znn l) : ∀ i, lnK w (sWk w s i) := by
  intro i
  induction i with
  | zero => exact lnK_lo hl h5 (fun _ _ => rfl)
  | succ i ih =>
    unfold sWk
    split
    · obtain ⟨l1, a1, a2⟩ := lnK_5 ih
      exact lnK_trans ih (lnK_note a1 a2)
    · exact ih
theorem lnK_grow {w : Nat → Int32} {x : Int32} {n l : Nat} (hn : n ≤ 10) (hl : l ≤ 150) (h5 : w 5 = znn l) {v : Int32} : lnK w (upd (growR w x n) 0 v) := lnK_lo hl h5 (fun j hj => by rw [upd_ap, if_neg (by omega), growR_lo (by omega) (by omega)])
theorem lnK_gets {w : Nat → Int32} {k d x p l : Nat} (hp : p < 10) (hl : l ≤ 150) (h5 : w 5 = znn l) : lnK w (sGets w k d x p) := by
  have h1 : lnK w (rowG w k d x) := lnK_lo hl h5 (fun j hj => rowG_lo (by omega) (by omega))
  obtain ⟨l1, a1, a2⟩ := lnK_5 h1
  have h2 : lnK (rowG w k d x) (sNote (rowG w k d x) 0 (znn p) (znn (wSum w 1 x k))) := lnK_note a1 a2
  obtain ⟨l2, b1, b2⟩ := lnK_5 h2
  have h3 : lnK w (sDay w k d x p) := lnK_trans h1 (lnK_trans h2 (lnK_wk b1 b2 k))
  obtain ⟨l3, c1, c2⟩ := lnK_5 h3
  have h4 : lnK w (sDrw (sHad w k d x p)) := lnK_trans h3 (lnK_lo c1 c2 (fun j hj => by
    unfold sDrw sHad
    rw [upd_ap, if_neg (by omega), upd_ap, if_neg (by omega), upd_ap, if_neg (by omega)]))
  obtain ⟨l4, d1, d2⟩ := lnK_5 h4
  unfold sGets
  split
  · have h5 : lnK (sDrw (sHad w k d x p)) (upd (sDrw (sHad w k d x p)) 2 (sDrw (sHad w k d x p) 2 + 1)) := lnK_lo d1 d2 (fun j hj => by rw [upd_ap, if_neg (by omega)])
    obtain ⟨l5, e1, e2⟩ := lnK_5 h5
    exact lnK_trans h4 (lnK_trans h5 (lnK_note e1 e2))
  · exact h4
theorem land_pass {B : ZI} {M : ZI} {R : ZF} {L : ZY} {t b n k c bd Y : Nat} (h : landIs M R L t b (B 149) n k) (hL : L.length ≤ 600000) (hk : k ≤ 9) (hok : fixOk (B 149) n k c bd) (hmo : momOk (B 149) n Y) (hy : Y ≤ 999) (h30 : B 148 30 = 1) (hg : zgood R L = true) :
    ∃ v M' R' L' B', g98_passes t 1 M R L = some (v, M', R', L') ∧ f204_aYear B = some (v, B') ∧ landIs M' R' L' t b (B' 149) n k ∧ hFr (ownL t b n) M R L M' R' L' ∧ (∃ X, L' = L ++ X ∧ X.length ≤ k + 2 ∧ (X.map Prod.snd).sum ≤ 4 * k + 8) ∧ R' t = R t ∧ rowF (B 149) (B' 149) ∧ lnK (B 149) (B' 149) ∧ (v = -1 ∨ ∃ p, p < n ∧ v = znn p) ∧ (∀ o, o ≠ 149 → o ≠ 159 → o ≠ 160 → B' o = B o) ∧ B' 149 0 = B 149 0 + 1 := by
  have hn : n ≤ 10 := hok.1.1
  have h48 : B 149 48 = znn n := hok.1.2.1
  have hr : ruleOk (B 149) := hok.2.2.2.1
  obtain ⟨l, hl, h5⟩ := hmo.2.2.1
  have hz0 : zi (B 149 5) ≤ 150 := by rw [h5, zn_zi (by omega)]; exact hl
  obtain ⟨e, he, h1⟩ := hmo.1
  obtain ⟨d, hd, h6⟩ := hmo.2.2.2.1
  obtain ⟨⟨o1, o2, o3, o4, o5, o6⟩, ⟨f0, f1, f2, f3, f4, f5, f6, f7, f8, f9⟩, -⟩ := id h
  unfold g98_passes f204_aYear
  rw [if_pos (gob_of o1 (lay_lt o1 (by omega))), f2, f3, f4]
  by_cases hrest : B 149 1 < B 149 50
  · rw [if_pos hrest, if_pos hrest, land_given h (by omega) hn h48 hy hmo hr]
    obtain ⟨B2, c1, c2⟩ := giv_ref (M := B) rfl (ask_of hok) hmo
    have e149 : B2 149 = B 149 := c2 149 (by decide) (by decide)
    have e30 : B2 148 30 = 1 := by rw [c2 148 (by decide) (by decide)]; exact h30
    simp only [Option.bind_some, if_true, c1]
    cases hgv : sGiv (B 149) (fun v => B 149 (80 + v)) n n with
    | none =>
      obtain ⟨M', R', L', a1, a2, a3, ⟨X, a4, a5, a6⟩, a7⟩ := land_rest (kd := 2) h hL hn hk hr h48 hl h5
      have r1 := rest_r (kd := 2) e149 e30 hn h48 hl h5
      refine ⟨-1, M', R', L', zw B2 149 (upd (growR (sNote (B 149) 2 (-1) 0) (-1) n) 0 (B 149 0 + 1)), ?_, ?_, by rw [zw_self]; exact a2, a3, ⟨X, a4, by omega, by omega⟩, a7, ?_, ?_, Or.inl rfl, fun o q1 q2 q3 => by rw [zw_ne _ _ q1]; exact c2 o q2 q3, by rw [zw_self, upd_ap, if_pos rfl]⟩
      rotate_left 2
      · rw [zw_self]; exact rowF_trans (sNote_F hz0) (rowF_trans (growR_F hn) (upd_F (by omega)))
      · rw [zw_self]; obtain ⟨l1, q1, q2⟩ := lnK_5 (lnK_note (x := 2) (y := -1) (z := 0) hl h5); exact lnK_trans (lnK_note hl h5) (lnK_grow hn q1 q2)
      · rw [optI_none, if_pos (show (-1 : Int32) < 0 by decide), ← a1]
        cases hq : g99_notes t 2 (-1) 0 1 M R L with
        | none => rfl
        | some q =>
          obtain ⟨m3, r4, l5⟩ := q
          simp only [Option.bind_some, zlet]
          rw [if_pos (show (-1 : Int32) < 0 by decide)]
      · rw [optI_none, if_pos rfl]
        simp only [zlet]
        rw [bind_id]
        exact r1
    | some p =>
      obtain ⟨hp, -⟩ := sGiv_lt _ _ _ _ _ hgv
      have hpn : ¬ znn p < 0 := by rw [zl0, zn_lt (by omega) (by decide)]; omega
      obtain ⟨x, hx, hpl⟩ := land_plan (p := p) (h := 24 - e) h (by omega) hok.2.2.1 hn (by omega) hd h6
      have hpl2 : g107_plan t (znn p) ((24 : Int32) - M t 2) M R L = some (znn x) := by
        rw [f2, h1, zl24, zn_sub he]
        exact hpl
      have hk12 : k ≤ 12 := by omega
      obtain ⟨x1, x2, x3⟩ := pBest_4096 hk12 hx
      obtain ⟨M1, R1, L1, a1, a2, a3, ⟨X, a4, a5, a6⟩, a7⟩ := land_gets (fun M14 R15 L16 => ((g98_l245 t (znn p) R15 L16 zfu 0 M14).bind fun M44 => if gob L16 t 10 = true then some (znn p, zs M44 t 1 (M44 t 1 + 1), R15, L16) else none)) h hL hk hok hmo hy hg hp h1 he h6 hd hl h5 hx hpl2
      obtain ⟨B1, g1, g1f⟩ := gets_r e149 hp hok hmo h1 he h6 hd hl h5 e30 hx
      obtain ⟨⟨l2, l3, l4⟩, lo, -⟩ := sDay_facts (k := k) (d := d) (x := x) (p := p) hl h5
      have hD5 : sDrw (sHad (B 149) k d x p) 5 = znn l2 := by
        unfold sDrw sHad
        rw [upd_no (by decide), upd_no (by decide), upd_no (by omega)]
        exact l4
      have sN : ∀ {v : Nat → Int32}, v 5 = znn l2 → ∀ j, j < 578 → j ≠ 5 → sNote v 4 (znn p) 0 j = v j := fun hv j hj hj5 => sNote_lo hj5 (Or.inl hj) (by rw [hv, zn_zi (by omega)]; exact l3)
      have lo2 : ∀ j, j < 578 → j ≠ 5 → j ≠ 6 → j ≠ 3 → j ≠ 1 → j ≠ 4 → j ≠ 2 → j ≠ 27 + p → sGets (B 149) k d x p j = B 149 j := by
        intro j q0 q1 q2 q3 q4 q5 q6 q7
        have hD : sDrw (sHad (B 149) k d x p) j = B 149 j := by
          unfold sDrw sHad
          rw [upd_no q5, upd_no q4, upd_no q7, lo j q1 (Or.inl q0), rowG_lo q3 q2]
        unfold sGets
        split
        · rw [sN (by rw [upd_no (by decide)]; exact hD5) j q0 q1, upd_no q6]
          exact hD
        · exact hD
      have hFg : rowF (B 149) (sGets (B 149) k d x p) := by
        have h1 : rowF (B 149) (sDay (B 149) k d x p) := fun j q1 q2 => by rw [lo j (by omega) (by omega)]; exact rowG_F j q1 q2
        have h2 : rowF (B 149) (sDrw (sHad (B 149) k d x p)) := rowF_trans h1 (rowF_trans (rowF_trans (upd_F (by omega)) (upd_F (by omega))) (upd_F (by omega)))
        unfold sGets
        split
        · exact rowF_trans (rowF_trans h2 (upd_F (by omega))) (sNote_F (by rw [upd_no (by decide), hD5, zn_zi (by omega)]; exact l3))
        · exact h2
      have h48g : sGets (B 149) k d x p 48 = znn n := (hFg 48 (by decide) (by decide)).trans h48
      have h0g : sGets (B 149) k d x p 0 = B 149 0 := lo2 0 (by decide) (by decide) (by decide) (by decide) (by decide) (by decide) (by decide) (by omega)
      have hL1 : L1.length ≤ 900000 := by rw [a4]; simp; omega
      obtain ⟨M2, b1, b2, b3⟩ := land_fin (x := znn p) a2 hL1 hn hk h48g (ruleOk_row hFg hr)
      have r2 := fin_r (B := zw B1 149 (upd (sGets (B 149) k d x p) (37 + p) (-1))) (v := sGets (B 149) k d x p) (x := znn p) hn h48g (Or.inr ⟨p, hp, rfl, zw_self _ _ _⟩)
      refine ⟨znn p, M2, R1, L1, zw (zw B1 149 (upd (sGets (B 149) k d x p) (37 + p) (-1))) 149 (upd (growR (sGets (B 149) k d x p) (znn p) n) 0 (sGets (B 149) k d x p 0 + 1)), ?_, ?_, by rw [zw_self]; exact b2, hFr_trans a3 b3, ⟨X, a4, a5, a6⟩, a7, ?_, ?_, Or.inr ⟨p, hp, rfl⟩, fun o q1 q2 q3 => by rw [zw_ne _ _ q1, zw_ne _ _ q1, g1f o q1 q2 q3]; exact c2 o q2 q3, by rw [zw_self, upd_ap, if_pos rfl, h0g]⟩
      rotate_left 2
      · rw [zw_self]; exact rowF_trans hFg (rowF_trans (growR_F hn) (upd_F (by omega)))
      · rw [zw_self]; have q0 := lnK_gets (k := k) (d := d) (x := x) (p := p) (w := B 149) (by omega) hl h5; obtain ⟨l1, q1, q2⟩ := lnK_5 q0; exact lnK_trans q0 (lnK_grow hn q1 q2)
      · rw [show optI (some p) = znn p from rfl, if_neg hpn]
        simp only [Option.bind_some]
        rw [← b1, ← a1]
        simp only [zlet]
        rw [if_neg hpn, if_pos (gob_of o1 (lay_lt o1 (by omega)))]
      · rw [show optI (some p) = znn p from rfl]
        rw [if_neg (zn_ne_neg (by omega)), g1]
        simp only [Option.bind_some, zlet]
        exact r2
  · rw [if_neg hrest, if_neg hrest]
    obtain ⟨a1, a2⟩ := land_field (j := 2) (i := 1) (x := zmax 0 (B 149 1 - B 149 49)) h hk hn hr (by omega)
    have hF : rowF (B 149) (upd (B 149) 1 (zmax 0 (B 149 1 - B 149 49))) := upd_F (by decide)
    have h48' : upd (B 149) 1 (zmax 0 (B 149 1 - B 149 49)) 48 = znn n := by rw [upd_no (by decide)]; exact h48
    have h5' : upd (B 149) 1 (zmax 0 (B 149 1 - B 149 49)) 5 = znn l := by rw [upd_no (by decide)]; exact h5
    obtain ⟨M', R', L', b1, b2, b3, ⟨X, b4, b5, b6⟩, b7⟩ := land_rest (kd := 1) a1 hL hn hk (ruleOk_row hF hr) h48' hl h5'
    have r1 := rest_r (B := zw B 149 (upd (B 149) 1 (zmax 0 (B 149 1 - B 149 49)))) (kd := 1) (zw_self _ _ _) (by rw [zw_ne _ _ (by decide)]; exact h30) hn h48' hl h5'
    refine ⟨-1, M', R', L', zw (zw B 149 (upd (B 149) 1 (zmax 0 (B 149 1 - B 149 49)))) 149 (upd (growR (sNote (upd (B 149) 1 (zmax 0 (B 149 1 - B 149 49))) 1 (-1) 0) (-1) n) 0 (upd (B 149) 1 (zmax 0 (B 149 1 - B 149 49)) 0 + 1)), ?_, ?_, by rw [zw_self]; exact b2, hFr_trans a2 b3, ⟨X, b4, by omega, by omega⟩, b7, ?_, ?_, Or.inl rfl, fun o q1 q2 q3 => by rw [zw_ne _ _ q1, zw_ne _ _ q1], by rw [zw_self, upd_ap, if_pos rfl, upd_ap, if_neg (by decide)]⟩
    rotate_left 2
    · rw [zw_self]; exact rowF_trans hF (rowF_trans (sNote_F (by rw [h5', zn_zi (by omega)]; exact hl)) (rowF_trans (growR_F hn) (upd_F (by omega))))
    · rw [zw_self]
      have q0 : lnK (B 149) (upd (B 149) 1 (zmax 0 (B 149 1 - B 149 49))) := lnK_lo hl h5 (fun j hj => by rw [upd_ap, if_neg (by omega)])
      have q3 := lnK_note (x := 1) (y := -1) (z := 0) hl h5'
      obtain ⟨l1, q1, q2⟩ := lnK_5 q3
      exact lnK_trans q0 (lnK_trans q3 (lnK_grow hn q1 q2))
    · rw [← b1]
      simp only [zlet]
      cases hq : g99_notes t 1 (-1) 0 1 (zs M t 2 (zmax 0 (B 149 1 - B 149 49))) R L with
      | none => rfl
      | some q =>
        obtain ⟨m3, r4, l5⟩ := q
        simp only [Option.bind_some]
        rw [if_pos (show (-1 : Int32) < 0 by decide)]
    · simp only [Option.bind_some]
      rw [if_neg (by decide)]
      simp only [Option.bind_some]
      rw [if_neg (by decide), gre_eq]
      simp only [Option.bind_some, zlet]
      simp only [if_true]
      rw [if_neg (by decide)]
      simp only [Option.bind_some]
      rw [bind_id]
      exact r1
