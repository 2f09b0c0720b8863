-- ===== the first half of the law's land() =====
theorem land_start {sc : ZS} {M B : ZI} {R : ZF} {L : ZY} (K : Nat → Int32 → ZI → ZF → ZY → Option (Option Nat × ZH)) (hsc : sc.1 ≤ 1000) (hI : Inv2 M B) (hz : zgood R L = true) (hL : L.length ≤ 1000) (hB : ∀ j, j < 578 → B 149 j = if j = 49 then 2 else if j = 50 then 12 else 0) (h19 : B 148 19 = 0) : ∃ v10 M' R' L' B', g151_h sc 0 K M R L = K L.length v10 M' R' L' ∧ Inv2 M' B' ∧ zgood R' L' = true ∧ landIs M' R' L' L.length L'.length (B' 149) 0 0 ∧ (∀ j, j < 578 → j ≠ 58 → B' 149 j = B 149 j) ∧ B' 148 19 = 0 ∧ ∃ X, L' = L ++ X ∧ X.length ≤ 60 ∧ (X.map Prod.snd).sum ≤ 7000 := by
  have h148 := zg_len hz
  obtain ⟨v10, ec0⟩ := cell_ok (k := 0) hsc (by decide)
  obtain ⟨v11, ec1⟩ := cell_ok (k := 1) hsc (by decide)
  let t := L.length
  let L1 : ZY := L ++ [(13, 15)]
  have hl1 : L1.length = L.length + 1 := by simp [L1]
  have hnew : L1[t]? = some (13, 15) := lay_new
  obtain ⟨M2, R2, e2, c2, m2, m23, m24, r2, r10, r11, r12⟩ := land_init (M := zw M t fun _ => 0) (R := zw R t fun _ => none) hnew (by omega)
  let L2 : ZY := L1 ++ [(51, 10), (51, 0), (51, 150)]
  have hl2 : L2.length = L.length + 4 := by simp [L2, hl1]
  let d := L2.length
  let L3 : ZY := L2 ++ [(0, 7)]
  have hl3 : L3.length = L.length + 5 := by simp [L3, hl2]
  let M3 : ZI := newM M2 d (dD v11)
  let R3 : ZF := zw R2 d fun _ => none
  have hd3 : L3[d]? = some (0, 7) := lay_new
  have o1 : L3[t]? = some (13, 15) := lay_app (lay_app hnew)
  have o2 : L3[t + 1]? = some (51, 10) := by
    show (L ++ [(13, 15)] ++ [(51, 10), (51, 0), (51, 150)] ++ [(0, 7)])[L.length + 1]? = _
    simp
  have oW : L3[t + 2]? = some (51, 0) := by
    show (L ++ [(13, 15)] ++ [(51, 10), (51, 0), (51, 150)] ++ [(0, 7)])[L.length + 2]? = _
    simp
  have o3 : L3[t + 3]? = some (51, 150) := by
    show (L ++ [(13, 15)] ++ [(51, 10), (51, 0), (51, 150)] ++ [(0, 7)])[L.length + 3]? = _
    simp
  have htd : t ≠ d := by show L.length ≠ L2.length; omega
  have hM3t : M3 t = M2 t := newM_ne htd
  have hR3t : R3 t = R2 t := zw_ne _ _ htd
  have hold : ∀ c, c < L.length → M3 c = M c ∧ R3 c = R c := fun c hc => by
    obtain ⟨a1, a2⟩ := c2 c (by show c ≠ L.length; omega) (by omega)
    have hcd : c ≠ d := by show c ≠ L2.length; omega
    have hct : c ≠ t := by show c ≠ L.length; omega
    refine ⟨by show newM M2 d _ c = _; rw [newM_ne hcd, a1, zw_ne _ _ hct], by show zw R2 d _ c = _; rw [zw_ne _ _ hcd, a2, zw_ne _ _ hct]⟩
  have hg3 : gF (fun _ => False) M R L M3 R3 L3 := ⟨⟨[(13, 15)] ++ [(51, 10), (51, 0), (51, 150)] ++ [(0, 7)], by simp [L3, L2, L1]⟩, fun c _ hc _ => hold c hc, fun c hc => (hold c (by omega)).2⟩
  have hI3 : Inv2 M3 B := Inv2_of hI (fun o ho => (hold o (by omega)).1) (fun _ _ => rfl)
  have hM3 : ∀ j, j < 10 → M3 t j = if j = 3 then 2 else if j = 4 then 12 else 0 := fun j hj => by
    rw [hM3t]
    by_cases h3 : j = 3
    · subst h3; rw [if_pos rfl]; exact m23
    · by_cases h4 : j = 4
      · subst h4; rw [if_neg h3, if_pos rfl]; exact m24
      · rw [if_neg h3, if_neg h4, m2 j h3 h4, zw_self]
  have hR3 : R3 t 10 = some (t + 1) ∧ R3 t 11 = some (t + 2) ∧ R3 t 12 = some (t + 3) ∧ R3 t 13 = none ∧ R3 t 14 = none := by
    rw [hR3t]
    refine ⟨by rw [r10, hl1], by rw [r11, hl1], by rw [r12, hl1], by rw [r2 13 (by decide) (by decide) (by decide), zw_self], by rw [r2 14 (by decide) (by decide) (by decide), zw_self]⟩
  obtain ⟨q10, q11, q12, q13, q14⟩ := hR3
  have b0 : g115_between v11 0 60 = some (znn (dD v11 0)) := btw0 (hi := 60) _ (by decide)
  have b1 : g115_between (zshr v11 3) 0 3 = some (znn (dD v11 1)) := btw0 (hi := 3) _ (by decide)
  have b2 : g115_between (zshr v11 5) 0 9 = some (znn (dD v11 2)) := btw0 (hi := 9) _ (by decide)
  have b3 : g115_between (zshr v11 6) 0 3 = some (znn (dD v11 3)) := btw0 (hi := 3) _ (by decide)
  have b4 : g115_between (zshr v11 4) 0 20 = some (znn (dD v11 4)) := btw0 (hi := 20) _ (by decide)
  have b5 : g115_between (zshr v11 7) 0 6 = some (znn (dD v11 5)) := btw0 (hi := 6) _ (by decide)
  have b6 : g115_between (zshr v11 2) 0 60 = some (znn (dD v11 6)) := btw0 (hi := 60) _ (by decide)
  have gd : ∀ j, j < 7 → gar L3 d 0 (znn j) = true := fun j hj => gar7 hd3 (by omega) hj
  have go3 : gob L3 t 10 = true := gob_of o1 (by omega)
  have gi1 : gin t = true := Nat.blt_eq.mpr (by show L.length < 1000000; omega)
  have gi2 : gin d = true := Nat.blt_eq.mpr (by show L2.length < 1000000; omega)
  by_cases hc : 0 < zshr v10 3 &&& 7
  · -- the law is told
    let R4 : ZF := zr R3 t 14 (some d)
    have hg4 : gF (fun c => c = t) M3 R3 L3 M3 R4 L3 := ⟨⟨[], by simp⟩, fun c _ _ hcc => ⟨rfl, by show zr R3 t 14 (some d) c = _; simp only [zr_ap, if_neg hcc]⟩, fun c hcc => by show zr R3 t 14 (some d) c = _; simp only [zr_ap, if_neg (show ¬ c = t by show ¬ c = L.length; omega)]⟩
    have hR4 : ∀ j, R4 t j = if j = 14 then some d else R3 t j := fun j => by
      show zr R3 t 14 (some d) t j = _
      simp only [zr_ap, zwF_ap, if_true]
    have hz4 : zgood R4 L3 = true := zgood_gF hg4 (zgood_gF hg3 hz)
    obtain ⟨a, M5, R5, L5, f1, f2, f3, f4, x5⟩ := law_made (fun (r277, M278, R279, L280) => (g145_say r277 M278 R279 L280).bind fun (M281, R282, L283) => if zgood R282 L283 = true then (f52_text (0 : Int32) M281).bind fun (v285, M286) => (if v285 = (5 : Int32) then K t v10 M286 R282 L283 else some (none, M286, R282, L283)) else none) (M := M3) (R := R4) (L := L3) (D := dD v11) hd3 (fun j hj => newM_at hj) (fun q _ => dD_lt v11 q) (by omega) (by omega)
    have hg5 : gF (fun _ => False) M3 R4 L3 M5 R5 L5 := gF_hFr f4 (by omega) (fun _ hh => hh.elim)
    have hz5 := zgood_gF hg5 hz4
    have hI5 : Inv2 M5 B := Inv2_of hI3 (fun o ho => (f4.2 o (by omega) (fun hh => hh)).1) (fun _ _ => rfl)
    obtain ⟨tA, tL⟩ := lawTx_ok (fun q _ => dD_lt v11 q)
    obtain ⟨X5, x51, x52, x53⟩ := id x5
    have hl5 : L5.length ≤ L.length + 35 := by rw [x51]; simp; omega
    have hl5' : 148 ≤ L5.length := by rw [x51]; simp; omega
    obtain ⟨M6, R6, L6, B6, e6, g6, x6, hI6, tp6, bb, tb, ob, rb⟩ := say_tx (by omega) tA f2 hz5 (by omega) hI5 h19
    have hg6 : gF (fun _ => False) M5 R5 L5 M6 R6 L6 := gF_evo g6 hl5'
    obtain ⟨B7, p1, p2, p3, p4, p5, p6⟩ := text_law tb ob rb (fun q _ => dD_lt v11 q)
    obtain ⟨M7, k1, k2, k3⟩ := call_r (sync_text 0) hI6 p1
    have hgA : gF (fun _ => False) M3 R4 L3 M7 R6 L6 := gF_trans hg5 (gF_trans hg6 (gF_call k3))
    have hcols : ∀ j, j < 578 → j ≠ 58 → B7 149 j = B 149 j := fun j q1 q2 => by rw [p4 j q2 (by omega), tp6.1 149 (by decide) (by decide)]
    obtain ⟨X6, x61, x62, x63⟩ := id x6
    have hl6 : L6.length ≤ L.length + 55 := by rw [x61]; simp; omega
    have eMt : M7 t = M3 t := (hgA.2.1 t h148 (lay_le o1) (fun hh => hh)).1
    have eRt : R6 t = R4 t := (hgA.2.1 t h148 (lay_le o1) (fun hh => hh)).2
    have eMd : M7 d = M3 d := (hgA.2.1 d (by show 148 ≤ L2.length; omega) (lay_le hd3) (fun hh => hh)).1
    have l36 : L3.length ≤ L6.length := by rw [x61, x51]; simp only [List.length_append]; omega
    refine ⟨v10, M7, R6, L6, B7, ?_, k2, zgood_gF hg6 hz5, ?_, hcols, p5, ?_⟩
    · unfold g151_h
      rw [if_pos (gfr_of (by omega))]
      simp only [gnew]
      rw [show L.length = t from rfl, if_pos gi1, show L ++ [(13, 15)] = L1 from rfl, e2]
      simp only [Option.bind_some]
      rw [show g114_cell sc 0 = some v10 from ec0]
      simp only [Option.bind_some]
      rw [show g114_cell sc (0 + 1) = some v11 from ec1]
      simp only [Option.bind_some]
      rw [if_pos (show gnn 7 = true by decide), show L1 ++ [(51, 10), (51, 0), (51, 150)] = L2 from rfl, if_pos (show gfr L2 = true from gfr_of (by omega)), show L2.length = d from rfl, show L2 ++ [(0, zi 7)] = L3 from rfl, b0]
      simp only [Option.bind_some, zlet]
      rw [if_pos (show gar L3 d 0 0 = true from gd 0 (by decide)), b1]
      simp only [Option.bind_some]
      rw [if_pos (show gar L3 d 0 1 = true from gd 1 (by decide)), b2]
      simp only [Option.bind_some]
      rw [if_pos (show gar L3 d 0 2 = true from gd 2 (by decide)), b3]
      simp only [Option.bind_some]
      rw [if_pos (show gar L3 d 0 3 = true from gd 3 (by decide)), b4]
      simp only [Option.bind_some]
      rw [if_pos (show gar L3 d 0 4 = true from gd 4 (by decide)), b5]
      simp only [Option.bind_some]
      rw [if_pos (show gar L3 d 0 5 = true from gd 5 (by decide)), b6]
      simp only [Option.bind_some]
      rw [if_pos (show gar L3 d 0 6 = true from gd 6 (by decide)), if_pos hc, if_pos go3, if_pos gi2]
      refine Eq.trans f1 ?_
      show (g145_say a M5 R5 L5).bind _ = _
      rw [e6]
      simp only [Option.bind_some]
      rw [if_pos (zgood_gF hg6 hz5), k1]
      simp only [Option.bind_some]
      rw [if_pos trivial]
    · refine land_zero (gF_lay hgA o1) (gF_lay hgA o2) (gF_lay hgA oW) (gF_lay hgA o3) ?_ ?_ ?_ ?_ h148 (by omega) (fun j q1 q2 => by rw [hcols j q1 q2]; exact hB j q1) (fun j hj => by rw [eMt]; exact hM3 j hj) ?_
      · rw [eRt, hR4, if_neg (by decide)]; exact q10
      · rw [eRt, hR4, if_neg (by decide)]; exact q11
      · rw [eRt, hR4, if_neg (by decide)]; exact q12
      · rw [eRt, hR4, if_neg (by decide)]; exact q13
      · unfold lndL
        rw [eRt, hR4, if_pos rfl]
        exact ⟨gF_lay hgA hd3, by show 148 ≤ L2.length; omega, Or.inl (by show L2.length < L6.length; omega), lawTells_on p2 (fun j hj => by rw [eMd]; exact newM_at hj)⟩
    · obtain ⟨X, z1, z2, z3⟩ := room_add x5 x6
      exact ⟨[(13, 15)] ++ [(51, 10), (51, 0), (51, 150)] ++ [(0, 7)] ++ X, by rw [z1]; simp [L3, L2, L1], by simp; omega, by simp; omega⟩
  · refine ⟨v10, M3, R3, L3, B, ?_, hI3, zgood_gF hg3 hz, ?_, fun _ _ _ => rfl, h19, [(13, 15)] ++ [(51, 10), (51, 0), (51, 150)] ++ [(0, 7)], by simp [L3, L2, L1], by simp, by simp⟩
    · unfold g151_h
      rw [if_pos (gfr_of (by omega))]
      simp only [gnew]
      rw [show L.length = t from rfl, if_pos gi1, show L ++ [(13, 15)] = L1 from rfl, e2]
      simp only [Option.bind_some]
      rw [show g114_cell sc 0 = some v10 from ec0]
      simp only [Option.bind_some]
      rw [show g114_cell sc (0 + 1) = some v11 from ec1]
      simp only [Option.bind_some]
      rw [if_pos (show gnn 7 = true by decide), show L1 ++ [(51, 10), (51, 0), (51, 150)] = L2 from rfl, if_pos (show gfr L2 = true from gfr_of (by omega)), show L2.length = d from rfl, show L2 ++ [(0, zi 7)] = L3 from rfl, b0]
      simp only [Option.bind_some, zlet]
      rw [if_pos (show gar L3 d 0 0 = true from gd 0 (by decide)), b1]
      simp only [Option.bind_some]
      rw [if_pos (show gar L3 d 0 1 = true from gd 1 (by decide)), b2]
      simp only [Option.bind_some]
      rw [if_pos (show gar L3 d 0 2 = true from gd 2 (by decide)), b3]
      simp only [Option.bind_some]
      rw [if_pos (show gar L3 d 0 3 = true from gd 3 (by decide)), b4]
      simp only [Option.bind_some]
      rw [if_pos (show gar L3 d 0 4 = true from gd 4 (by decide)), b5]
      simp only [Option.bind_some]
      rw [if_pos (show gar L3 d 0 5 = true from gd 5 (by decide)), b6]
      simp only [Option.bind_some]
      rw [if_pos (show gar L3 d 0 6 = true from gd 6 (by decide)), if_neg hc]
      rfl
    · refine land_zero o1 o2 oW o3 q10 q11 q12 q13 h148 (by omega) (fun j q1 _ => hB j q1) hM3 ?_
      unfold lndL
      rw [q14]
      show B 149 58 = 0
      rw [hB 58 (by decide)]
      rfl
