-- ===== a YEAR in a LAND, given =====
theorem land_gets {γ : Type} {M : ZI} {R : ZF} {L : ZY} {t b n k c bd Y p e d l : Nat} {w : Nat → Int32} (K : ZI → ZF → ZY → Option γ) (h : landIs M R L t b w n k) (hL : L.length ≤ 600000) (hk : k ≤ 9) (hok : fixOk w n k c bd) (hmo : momOk w n Y) (hy : Y ≤ 999) (hg : zgood R L = true) (hp : p < n) (h1 : w 1 = znn e) (he : e ≤ 24) (h6 : w 6 = znn d) (hd : d < 4096) (hl : l ≤ 150) (h5 : w 5 = znn l) {x : Nat} (hx : pBest w k p (24 - e) d (2 ^ k) x) (hpl : g107_plan t (znn p) ((24 : Int32) - M t 2) M R L = some (znn x)) :
    ∃ M' R' L', ((g107_plan t (znn p) ((24 : Int32) - (M t 2)) M R L).bind fun v50 => (g109_sum t v50 (1 : Int32) M R L).bind fun v51 => zlet (zs M t 9 ((M t 9) ||| v50)) fun (M52 : ZI) => (g109_sum t v50 (2 : Int32) M52 R L).bind fun v53 => zlet (zs M52 t 6 ((M52 t 6) + v53)) fun (M54 : ZI) => (g110_wear t (znn p) v51 M54 R L).bind fun v55 => (g111_notice t (znn p) v51 M54 R L).bind fun v56 => (g99_notes t (0 : Int32) (znn p) v51 1 M54 R L).bind fun (M57, R58, L59) => (g98_l138 t 1 v50 zfu (0 : Int32) M57 R58 L59).bind fun (M74, R75, L76) =>
  if gob L76 t 10 = true then (R75 t 10).bind fun r79 => if gar L76 r79 51 (znn p) = true then (R75 r79 (zi (znn p))).bind fun r81 => if gar L76 r81 0 (3 : Int32) = true then zlet (zs M74 r81 (zi (3 : Int32)) ((M74 r81 (zi (3 : Int32))) + (1 : Int32))) fun (M83 : ZI) => zlet (zs M83 t 2 (zmin (24 : Int32) ((M83 t 2) + v55))) fun (M84 : ZI) => (if (1 : Int32) = 0 then K M84 R75 L76 else (g112_draw t (1000 : Int32) M84 R75 L76).bind fun (v85, M86, R87, L88) => (if v85 < v56 then if gob L88 t 10 = true then zlet (zs M86 t 5 ((M86 t 5) + (1 : Int32))) fun (M90 : ZI) => (g99_notes t (4 : Int32) (znn p) (0 : Int32) (1 : Int32) M90 R87 L88).bind fun (M91, R92, L93) => K M91 R92 L93 else none else K M86 R87 L88)) else none else none else none) = K M' R' L' ∧ landIs M' R' L' t b (sGets w k d x p) n k ∧ hFr (ownL t b n) M R L M' R' L' ∧ (∃ X, L' = L ++ X ∧ X.length ≤ k + 2 ∧ (X.map Prod.snd).sum ≤ 4 * k + 8) ∧ R' t = R t := by
  have hn : n ≤ 10 := hok.1.1
  have hr : ruleOk w := hok.2.2.2.1
  have hwk : wrkOk w n k := hok.2.2.1
  have hk12 : k ≤ 12 := by omega
  obtain ⟨x1, x2, x3⟩ := pBest_4096 hk12 hx
  have hF1 : rowF w (rowG w k d x) := rowG_F
  have hF0 : rowF w (upd w 6 (znn (d ||| x))) := upd_F (by decide)
  obtain ⟨⟨l2, l3, l4⟩, lo, l5, l6, l7⟩ := sDay_facts (k := k) (d := d) (x := x) (p := p) hl h5
  have hF2 : rowF w (sNote (rowG w k d x) 0 (znn p) (znn (wSum w 1 x k))) := rowF_trans hF1 (sNote_F (by rw [rowG_lo (by decide) (by decide), h5, zn_zi (by omega)]; exact hl))
  have hF3 : rowF w (sDay w k d x p) := rowF_trans hF2 (sWk_F l6 l7 k)
  rw [hpl]
  simp only [Option.bind_some]
  have s1 : g109_sum t (znn x) 1 M R L = some (znn (wSum w 1 x k)) := land_sum2 (f := 1) h (by omega) hwk hn (by decide) x2
  rw [s1]
  simp only [Option.bind_some]
  -- DONE and WORTH
  have e9 : M t 9 ||| znn x = znn (d ||| x) := by
    rw [show M t 9 = w 6 from h.2.1.2.2.2.2.2.2.2.2.2, h6, zn_or]
  rw [e9]
  obtain ⟨a1, a2⟩ := land_field (j := 9) (i := 6) (x := znn (d ||| x)) h hk hn hr (by omega)
  rw [show (zlet (zs M t 9 (znn (d ||| x))) : (ZI → Option γ) → Option γ) = fun f => f (zs M t 9 (znn (d ||| x))) from rfl]
  simp only []
  have s2 : g109_sum t (znn x) 2 (zs M t 9 (znn (d ||| x))) R L = some (znn (wSum w 2 x k)) := by
    have := land_sum2 (f := 2) a1 (by omega) ((fixOk_row hF0 hok).2.2.1) hn (by decide) x2
    rw [wSum_row hF0 hk12 (by decide)] at this
    exact this
  rw [s2]
  simp only [Option.bind_some]
  have e6 : zs M t 9 (znn (d ||| x)) t 6 + znn (wSum w 2 x k) = w 3 + znn (wSum w 2 x k) := by
    rw [show zs M t 9 (znn (d ||| x)) t 6 = upd w 6 (znn (d ||| x)) 3 from a1.2.1.2.2.2.2.2.2.1, upd_no (by decide)]
  rw [e6]
  obtain ⟨b1, b2⟩ := land_field (j := 6) (i := 3) (x := w 3 + znn (wSum w 2 x k)) a1 hk hn (ruleOk_row hF0 hr) (by omega)
  have b1 : landIs (zs (zs M t 9 (znn (d ||| x))) t 6 (w 3 + znn (wSum w 2 x k))) R L t b (rowG w k d x) n k := b1
  have hmoG : momOk (rowG w k d x) n Y := momOk_G hmo hd x2
  have hrG : ruleOk (rowG w k d x) := ruleOk_row hF1 hr
  have h5G : rowG w k d x 5 = znn l := by rw [rowG_lo (by decide) (by decide)]; exact h5
  obtain ⟨ss, hss, hst, -⟩ := (hmoG.2.2.2.2 p hp).2
  have s3 := land_wear (u := wSum w 1 x k) b1 (by omega) hn hp (by omega) hy hmoG ⟨ss, hss, hst⟩ hg
  have s4 := land_notice (u := wSum w 1 x k) b1 (by omega) hn hp (by omega) hy hmoG
  rw [show (zlet (zs (zs M t 9 (znn (d ||| x))) t 6 (w 3 + znn (wSum w 2 x k))) : (ZI → Option γ) → Option γ) = fun f => f (zs (zs M t 9 (znn (d ||| x))) t 6 (w 3 + znn (wSum w 2 x k))) from rfl]
  simp only []
  rw [s3]
  simp only [Option.bind_some]
  rw [s4]
  simp only [Option.bind_some]
  generalize zs (zs M t 9 (znn (d ||| x))) t 6 (w 3 + znn (wSum w 2 x k)) = M54 at b1 b2 ⊢
  have fr1 : hFr (ownL t b n) M R L M54 R L := hFr_trans a2 b2
  -- THE BOOK
  obtain ⟨M57, R58, L59, c1, c2, c3, ⟨X1, c4, c5, c6⟩, c7⟩ := land_note (x := 0) (y := znn p) (z := znn (wSum w 1 x k)) b1 (by omega) hn hk hrG hl h5G
  rw [c1]
  simp only [Option.bind_some]
  have hL59 : L59.length ≤ 700000 := by rw [c4]; simp; omega
  obtain ⟨M74, R75, L76, d1, d2, d3, ⟨X2, d4, d5, d6⟩, d7⟩ := land_works (s := x) c2 hL59 hn hk ((fixOk_row hF2 hok).2.2.1) (ruleOk_row hF2 hr) l6 l7 x2
  rw [d1]
  simp only [Option.bind_some]
  have hL76 : L76.length ≤ 800000 := by rw [d4]; simp; omega
  have d2 : landIs M74 R75 L76 t b (sDay w k d x p) n k := d2
  have fr2 : hFr (ownL t b n) M R L M74 R75 L76 := hFr_trans fr1 (hFr_trans c3 d3)
  have hr3 : ruleOk (sDay w k d x p) := ruleOk_row hF3 hr
  obtain ⟨⟨o1, o2, o3, o4, o5, o6⟩, ⟨f0, f1, f2, f3, f4, f5, f6, f7, f8, f9⟩, ⟨hb, hP⟩, -⟩ := id d2
  obtain ⟨p1, p2, q0, q1, q2, q3, q4, q5, q6⟩ := hP p hp
  rw [if_pos (gob_of o1 (lay_lt o1 (by omega))), o4]
  simp only [Option.bind_some]
  rw [if_pos (gar10 o2 (by omega) (by omega)), zn_zi (show p < 2147483648 by omega), p1]
  simp only [Option.bind_some]
  have g3 : gar L76 (b + p) 0 3 = true := gar7 p2 (by omega) (j := 3) (by decide)
  rw [if_pos g3, zi_l3, q3]
  -- HAD and WEAR
  obtain ⟨i1, i2⟩ := land_had (p := p) (x := sDay w k d x p (27 + p) + 1) d2 hk hn hr3 hp
  have e2 : zs M74 (b + p) 3 (sDay w k d x p (27 + p) + 1) t 2 = sDay w k d x p 1 := by
    rw [show zs M74 (b + p) 3 (sDay w k d x p (27 + p) + 1) t 2 = _ from i1.2.1.2.2.1, upd_no (by omega)]
  rw [show (zlet (zs M74 (b + p) 3 (sDay w k d x p (27 + p) + 1)) : (ZI → Option γ) → Option γ) = fun f => f (zs M74 (b + p) 3 (sDay w k d x p (27 + p) + 1)) from rfl]
  simp only []
  rw [e2]
  have hr4 : ruleOk (upd (sDay w k d x p) (27 + p) (sDay w k d x p (27 + p) + 1)) := ruleOk_row (upd_F (by omega)) hr3
  obtain ⟨j1, j2⟩ := land_field (j := 2) (i := 1) (x := zmin 24 (sDay w k d x p 1 + sAsk (rowG w k d x) 21 p (wSum w 1 x k))) i1 hk hn hr4 (by omega)
  rw [show (zlet (zs (zs M74 (b + p) 3 (sDay w k d x p (27 + p) + 1)) t 2 (zmin 24 (sDay w k d x p 1 + sAsk (rowG w k d x) 21 p (wSum w 1 x k)))) : (ZI → Option γ) → Option γ) = fun f => f (zs (zs M74 (b + p) 3 (sDay w k d x p (27 + p) + 1)) t 2 (zmin 24 (sDay w k d x p 1 + sAsk (rowG w k d x) 21 p (wSum w 1 x k)))) from rfl]
  simp only []
  have j1 : landIs (zs (zs M74 (b + p) 3 (sDay w k d x p (27 + p) + 1)) t 2 (zmin 24 (sDay w k d x p 1 + sAsk (rowG w k d x) 21 p (wSum w 1 x k)))) R75 L76 t b (sHad w k d x p) n k := j1
  have hr5 : ruleOk (sHad w k d x p) := ruleOk_row (upd_F (by omega)) hr4
  have fr3 := hFr_trans fr2 (hFr_trans i2 j2)
  generalize zs (zs M74 (b + p) 3 (sDay w k d x p (27 + p) + 1)) t 2 (zmin 24 (sDay w k d x p 1 + sAsk (rowG w k d x) 21 p (wSum w 1 x k))) = M84 at j1 fr3 ⊢
  rw [if_neg (by decide)]
  -- DRAWS
  have e0 : M84 t 0 = sHad w k d x p 4 := j1.2.1.1
  obtain ⟨m1, m2⟩ := land_field (j := 0) (i := 4) (x := 1664525 * sHad w k d x p 4 + 1013904223) j1 hk hn hr5 (by omega)
  have m1 : landIs (zs M84 t 0 (1664525 * sHad w k d x p 4 + 1013904223)) R75 L76 t b (sDrw (sHad w k d x p)) n k := m1
  have hr6 : ruleOk (sDrw (sHad w k d x p)) := ruleOk_row (upd_F (by omega)) hr5
  have s5 : g112_draw t 1000 M84 R75 L76 = some (zrem (zushr (sDrw (sHad w k d x p) 4) 8) 1000, zs M84 t 0 (1664525 * sHad w k d x p 4 + 1013904223), R75, L76) := by
    unfold g112_draw
    rw [if_pos (gob_of o1 (lay_lt o1 (by omega))), e0]
    simp only [zlet]
    rw [if_neg (by decide), zs_sm, if_pos rfl]
    rfl
  rw [s5]
  simp only [Option.bind_some]
  have fr4 := hFr_trans fr3 m2
  have bd : ∃ X, L76 = L ++ X ∧ X.length ≤ k + 1 ∧ (X.map Prod.snd).sum ≤ 4 * k + 4 := ⟨X1 ++ X2, by rw [d4, c4, List.append_assoc], by simp; omega, by simp; omega⟩
  have et : R75 t = R t := d7.trans c7
  unfold sGets
  by_cases hc : zrem (zushr (sDrw (sHad w k d x p) 4) 8) 1000 < sAsk (rowG w k d x) 22 p (wSum w 1 x k)
  · rw [if_pos hc, if_pos hc, if_pos (gob_of o1 (lay_lt o1 (by omega)))]
    have e5 : zs M84 t 0 (1664525 * sHad w k d x p 4 + 1013904223) t 5 = sDrw (sHad w k d x p) 2 := m1.2.1.2.2.2.2.2.1
    rw [e5]
    obtain ⟨n1, n2⟩ := land_field (j := 5) (i := 2) (x := sDrw (sHad w k d x p) 2 + 1) m1 hk hn hr6 (by omega)
    have h5z : upd (sDrw (sHad w k d x p)) 2 (sDrw (sHad w k d x p) 2 + 1) 5 = znn l2 := by
      rw [upd_no (by decide)]
      unfold sDrw sHad
      rw [upd_no (by decide), upd_no (by decide), upd_no (by omega)]
      exact l4
    obtain ⟨M91, R92, L93, r1, r2, r3, ⟨X3, r4, r5, r6⟩, r7⟩ := land_note (x := 4) (y := znn p) (z := 0) n1 hL76 hn hk (ruleOk_row (upd_F (by omega)) hr6) l3 h5z
    simp only [zlet]
    rw [r1]
    simp only [Option.bind_some]
    obtain ⟨X, x4, x5, x6⟩ := bd
    exact ⟨M91, R92, L93, rfl, r2, hFr_trans fr4 (hFr_trans n2 r3), ⟨X ++ X3, by rw [r4, x4, List.append_assoc], by simp; omega, by simp; omega⟩, r7.trans et⟩
  · rw [if_neg hc, if_neg hc]
    obtain ⟨X, x4, x5, x6⟩ := bd
    exact ⟨_, _, _, rfl, m1, fr4, ⟨X, x4, by omega, by omega⟩, et⟩
