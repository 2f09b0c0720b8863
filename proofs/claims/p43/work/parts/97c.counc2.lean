-- ===== a drawn council with a rule told =====
theorem rIs_gF {own : Nat → Prop} {lo n f : Nat} {y : Int32 × Nat} {M M' : ZI} {R R' : ZF} {L L' : ZY} {r : Nat} (h : rIs lo n f y M R L r) (h148 : 148 ≤ lo) (hg : gF own M R L M' R' L') (ho : ∀ c m, L[c]? = some (16, m) → ¬ own c) : rIs lo n f y M' R' L' r :=
  rIs_fr (Nat.le_refl _) hg.1 (fun c m hc hlo => hg.2.1 c (by omega) (lay_le hc) (ho c m hc)) f y r h
theorem council_rule {M B : ZI} {R : ZF} {L : ZY} {t b n k : Nat} {x : Int32} (hI : Inv2 M B) (h : landIs M R L t b (B 149) n k) (hz : zgood R L = true) (hL : L.length ≤ 500000) (h48 : B 149 48 = znn n) (hn : n ≤ 10) (hk : k ≤ 9) (h19 : B 148 19 = 0) (hn0 : 0 < n) (hx : ¬ zshr x 6 &&& 3 = 0) : ∃ M' R' L' B', g146_council t x M R L = some (1, M', R', L') ∧ Inv2 M' B' ∧ landIs M' R' L' t b (B' 149) n k ∧ gF (fun c => c = t) M R L M' R' L' ∧ couB B B' ∧ (∀ j, j ≠ 13 → R' t j = R t j) ∧ M' t = M t ∧ ∃ X, L' = L ++ X ∧ X.length ≤ 200 ∧ (X.map Prod.snd).sum ≤ 27000 := by
  obtain ⟨⟨o1, o2, o3, o4, o5, o6⟩, hF, -, -, -, -, -⟩ := id h
  have lt := lay_le o1
  have h148 := zg_len hz
  have go : gob L t 10 = true := gob_of o1 (by omega)
  have f7 : M t 7 = znn n := hF.2.2.2.2.2.2.2.1.trans h48
  have p8 : 2 ^ (3 + 1) = 16 := rfl
  -- the rule
  obtain ⟨r, M3, R3, L3, e1, s1, g1, X1, x1, x2, x3⟩ := rule_new hn0 hn 3 (x, 0) zgr M R L rfl (by decide) (by omega) h148
  have hl3 : L3.length ≤ L.length + 15 := by rw [x1]; simp; omega
  have hg1 : gF (fun c => c = t) M R L M3 R3 L3 := gF_wide (gF_hFr g1 h148 (fun _ hh => hh.elim)) (fun _ _ hh => hh.elim)
  have o1a := hFr_lay g1 o1
  have rl := lay_le (rIs_obj s1).1
  have rlo := (rIs_obj s1).2.1
  -- it is put into the LAND
  have hg2 : gF (fun c => c = t) M3 R3 L3 M3 (zr R3 t 13 (some r)) L3 := ⟨⟨[], by simp⟩, fun c _ _ hc => ⟨rfl, by simp only [zr_ap, if_neg hc]⟩, fun c hc => by simp only [zr_ap, if_neg (show ¬ c = t by omega)]⟩
  have hz2 : zgood (zr R3 t 13 (some r)) L3 = true := zgood_gF hg2 (zgood_gF hg1 hz)
  have e13 : (zr R3 t 13 (some r)) t 13 = some r := by simp only [zr_ap, zwF_ap, if_true]
  have no16 : ∀ (Lx : ZY) c m, Lx[t]? = some (13, 15) → Lx[c]? = some (16, m) → ¬ c = t := fun Lx c m q1 q2 he => by
    rw [he, q1] at q2; cases q2
  have s2 : rIs L.length n 3 (x, 0) M3 (zr R3 t 13 (some r)) L3 r := rIs_gF s1 h148 hg2 (fun c m hc => no16 L3 c m o1a hc)
  -- its text
  have tN3 := tN_le 3 (by decide)
  obtain ⟨a, M4, R4, L4, e4, s4, l4, g4, x4⟩ := rule_text hn0 hn 3 (x, 0) r zgr (decide (zshr x 5 &&& 1 = 1)) M3 (zr R3 t 13 (some r)) L3 rfl (by decide) s2 (by omega) (by omega)
  have hg4 : gF (fun c => c = t) M3 (zr R3 t 13 (some r)) L3 M4 R4 L4 := gF_wide (gF_hFr g4 (by omega) (fun _ hh => hh.elim)) (fun _ _ hh => hh.elim)
  have hI4 : Inv2 M4 B := Inv2_of hI (fun o ho => by
    rw [(g4.2 o (by omega) (fun hh => hh)).1, (g1.2 o (by omega) (fun hh => hh)).1]) (fun _ _ => rfl)
  obtain ⟨X4, y1, y2, y3⟩ := id x4
  have hl4 : L4.length ≤ L.length + 175 := by rw [y1]; simp; omega
  have hl34 : L3.length ≤ L4.length := by rw [y1]; simp
  -- it is told
  obtain ⟨cA, cL⟩ := cTx_ok hn0 hn x (decide (zshr x 5 &&& 1 = 1))
  obtain ⟨M5, R5, L5, B5, e5, g5, x5, hI5, tp5, bb, tb, ob, rb⟩ := say_tx (tx := cTx n x (decide (zshr x 5 &&& 1 = 1))) (by omega) cA s4 (zgood_gF hg4 hz2) (by omega) hI4 h19
  have hg5 : gF (fun c => c = t) M4 R4 L4 M5 R5 L5 := gF_evo g5 (by omega)
  have hz5 := zgood_gF hg5 (zgood_gF hg4 hz2)
  obtain ⟨B', p1, p2, p3, p4, p5, p6, p7, p8'⟩ := text_council tb ob hn0 hn (by rw [tp5.1 149 (by decide) (by decide)]; exact h48) rb
  obtain ⟨M', c1, c2, c3⟩ := call_r (sync_text 3) hI5 p1
  have o1b := gF_lay hg4 o1a
  have o1c := gF_lay hg5 o1b
  have hl5 : L5.length ≤ L.length + 195 := by
    obtain ⟨X5, z1, z2, z3⟩ := x5
    rw [z1]; simp; omega
  have go3 : gob L3 t 10 = true := gob_of o1a (by omega)
  have go5 : gob L5 t 10 = true := gob_of o1c (by omega)
  have hR4 : ∀ j, R4 t j = (zr R3 t 13 (some r)) t j := fun j => by rw [(g4.2 t (by omega) (fun hh => hh)).2]
  have hR5 : ∀ j, R5 t j = (zr R3 t 13 (some r)) t j := fun j => by rw [g5.2.2 t (by omega)]; exact hR4 j
  have r5 : R5 t 13 = some r := by rw [hR5]; exact e13
  have s5 : rIs L.length n 3 (x, 0) M' R5 L5 r := rIs_gF (rIs_gF (rIs_F s2 g4) h148 hg5 (fun c m hc => no16 L4 c m o1b hc)) h148 (gF_call (own := fun _ => False) c3) (fun _ _ _ hh => hh)
  have hj : ∀ j, j ≠ 13 → R5 t j = R t j := fun j hj => by
    rw [hR5]
    simp only [zr_ap, zwF_ap, if_true, if_neg hj]
    rw [(g1.2 t lt (fun hh => hh)).2]
  have hMt : M' t = M t := by
    rw [c3 t o6, g5.2.1 t o6 (by omega), (g4.2 t (by omega) (fun hh => hh)).1, (g1.2 t lt (fun hh => hh)).1]
  have hg : gF (fun c => c = t) M R L M' R5 L5 := gF_trans hg1 (gF_trans hg2 (gF_trans hg4 (gF_trans hg5 (gF_call c3))))
  have hB : couB B B' := ⟨fun o q1 q2 q3 q4 => by rw [p2 o q1 q2 q3, tp5.1 o q1 q4], fun j q1 q2 q3 => by rw [p6 j q1 q2 q3, tp5.1 149 (by decide) (by decide)], p7, by rw [p8', tp5.2 4 (by decide)]⟩
  have hgr : gob L5 r 13 = true := gob_of (rIs_obj s5).1 (by have := lay_le (rIs_obj s5).1; omega)
  have hgr3 : gob L3 r 13 = true := gob_of (rIs_obj s2).1 (by omega)
  refine ⟨M', R5, L5, B', ?_, c2, landIs_counc h hn hk hB hg hMt hj ?_, hg, hB, hj, hMt, ?_⟩
  · unfold g146_council
    have ew : (if M t 7 = 0 then some (none, M, R, L) else (if zshr x 6 &&& 3 = 0 then some (none, M, R, L) else (g147_rule zgr x (M t 7) 0 M R L).bind fun (r2, M3, R4, L5) => some ((some r2), M3, R4, L5)) : Option (Option Nat × ZI × ZF × ZY)) = some (some r, M3, R3, L3) := by
      rw [f7, if_neg (show ¬ znn n = 0 by rw [zl0, zn_eq (by omega) (by decide)]; omega), if_neg hx, show g147_rule zgr x (znn n) 0 M R L = some (r, M3, R3, L3) from e1]
      rfl
    have eb : (if zshr x 5 &&& 1 = 1 then some (1 : Int32) else some 0) = some (b01 (decide (zshr x 5 &&& 1 = 1))) := by
      by_cases hh : zshr x 5 &&& 1 = 1
      · rw [if_pos hh, decide_eq_true hh]; rfl
      · rw [if_neg hh, decide_eq_false hh]; rfl
    rw [if_pos go, ew]
    simp only [Option.bind_some]
    rw [if_pos go3, if_pos (show gio (some r) = true from Nat.blt_eq.mpr (by omega))]
    simp only [zlet]
    rw [e13]
    simp only [zopt, Option.bind_some]
    rw [eb]
    simp only [Option.bind_some]
    rw [if_pos hgr3, e4]
    simp only [Option.bind_some]
    rw [e5]
    simp only [Option.bind_some]
    rw [if_pos hz5, c1]
    simp only [Option.bind_some]
    rw [if_pos go5, r5]
    simp only [Option.bind_some]
    rw [if_pos hgr, rule_size (by omega) 3 (x, 0) r zgr rfl (by decide) s5]
    simp only [Option.bind_some]
    rw [if_pos (show znn (cSz x) = znn (rSz 3 (x, 0)) from rfl)]
  · unfold lndC
    rw [r5]
    refine ⟨hgr, by omega, fun S hS => ?_⟩
    rw [rule_does hn0 hn hS hz5 (by omega) 3 (x, 0) r zgr rfl (by decide) s5, sat_cd hn0 hn hS p4 p5]
  · obtain ⟨X, z1, z2, z3⟩ := room_add (room_add ⟨X1, x1, Nat.le_of_lt x2, x3⟩ x4) x5
    exact ⟨X, z1, by omega, by omega⟩
theorem council_ok {M B : ZI} {R : ZF} {L : ZY} {t b n k : Nat} (x : Int32) (hI : Inv2 M B) (h : landIs M R L t b (B 149) n k) (hz : zgood R L = true) (hL : L.length ≤ 500000) (h48 : B 149 48 = znn n) (hn : n ≤ 10) (hk : k ≤ 9) (h19 : B 148 19 = 0) : ∃ M' R' L' B', g146_council t x M R L = some (1, M', R', L') ∧ Inv2 M' B' ∧ landIs M' R' L' t b (B' 149) n k ∧ gF (fun c => c = t) M R L M' R' L' ∧ couB B B' ∧ (∀ j, j ≠ 13 → R' t j = R t j) ∧ M' t = M t ∧ ∃ X, L' = L ++ X ∧ X.length ≤ 200 ∧ (X.map Prod.snd).sum ≤ 27000 := by
  by_cases hx : n = 0 ∨ zshr x 6 &&& 3 = 0
  · obtain ⟨M', R', B', e1, e2, e3, e4, e5, e6, e7⟩ := council_none hI h hz hL h48 hn hk h19 hx
    exact ⟨M', R', L, B', e1, e2, e3, e4, e5, e6, e7, [], by simp, by simp, by simp⟩
  · exact council_rule hI h hz hL h48 hn hk h19 (by omega) (fun hh => hx (Or.inr hh))
