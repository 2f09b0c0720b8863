-- ===== the law comes to 1 =====
theorem zhA_book : (zhA.map fun h => zBL.all fun z => decide (gh h.1 z.1 z.2.1 = z.2.2)) = some true := by decide +kernel
theorem zB0_gh {M : ZI} {R : ZF} (hz : zhA = some (M, R, zHc)) : zB0 (gh M) := by
  have h := zhA_book
  rw [hz] at h
  have h := Option.some.inj h
  intro z hzz
  exact of_decide_eq_true (List.all_eq_true.mp h z hzz)
theorem gh_row (M : ZI) (j : Nat) : gh M 149 j = if j = 49 then 2 else if j = 50 then 12 else 0 := by
  unfold gh
  rw [if_neg (by decide), if_neg (by omega)]
  by_cases h1 : j = 49
  · rw [if_pos ⟨rfl, h1⟩, if_pos h1]
  · rw [if_neg (fun hh => h1 hh.2), if_neg h1]
    by_cases h2 : j = 50
    · rw [if_pos ⟨rfl, h2⟩, if_pos h2]
    · rw [if_neg (fun hh => h2 hh.2), if_neg h2]
theorem zHc_len : zHc.length = 148 ∧ (zHc.map Prod.snd).sum ≤ 200000 := by decide +kernel
/-- what the law calls at last: refused by the reference, which stays as it is -/
theorem law_end {M B : ZI} {R : ZF} {L : ZY} {r14 m n k Y : Nat} {T Bb : Nat → Nat} (h : zWS M R L B r14 T Bb m n k Y) (hL : L.length ≤ 480000) : ∃ M' R', g152_k50 (T m) M R L = some (1, M', R', L ++ [(0, 9)]) := by
  obtain ⟨hI, hw, hs⟩ := h
  obtain ⟨a1, a2, a3, a4, a5, a6, a7, a8, a9, a10, a11⟩ := id hw
  have hc := LWx_cur hw
  have t148 := hc.1.2.2.2.2.2
  have go : gob L (T m) 10 = true := gob_of hc.1.1 (by have := lay_le hc.1.1; omega)
  have f7 : M (T m) 7 = znn n := hc.2.1.2.2.2.2.2.2.2.1.trans a5
  obtain ⟨⟨l, hl, h5⟩, -⟩ := LWx_ly hw
  have per0 : f152_isPerson 0 B = some (if 0 < n then 1 else 0) := by
    by_cases hn : 0 < n
    · rw [if_pos hn]; exact per_yes (p := 0) a2 a5 hn
    · have : n = 0 := by omega
      subst this
      rw [if_neg hn]
      exact per_no (n := 0) a2 a5
  have r1 : f203_years 0 B = some (-1, B) := rfl
  have r2 : f203_years 41 B = some (-1, B) := rfl
  have r3 : f148_person 100 0 B = some (-1, B) := rfl
  have r4 : f148_person 0 25 B = some (-1, B) := rfl
  have r5 : f199_tie 0 0 1 B = some (0, B) := tie_none (a := 0) (b := 0) a2 a5 (Nat.zero_le _) (Nat.zero_le _) (fun hh => hh.2.2 rfl)
  have r6 : f199_tie (-1) 0 1 B = some (0, B) := by
    unfold f199_tie f152_isPerson
    rw [in_low (a := -1) (b := 0) (by decide)]
    rfl
  have r7 : f201_sit 25 B = some (-1, B) := rfl
  have r8 : f150_set 2 0 0 B = some (0, B) := set_no (what := 2) (a := 0) (v := 0) (by decide) a2 a5 (Nat.zero_le _) (by decide) (fun hh => absurd (hh.2.1 rfl) (by decide))
  have r9 : f150_set 2 0 25 B = some (0, B) := set_no (what := 2) (a := 0) (v := 25) (by decide) a2 a5 (Nat.zero_le _) (by decide) (fun hh => absurd hh.1 (by decide))
  have r10 : f150_set 4 (znn n) 0 B = some (0, B) := set_no (what := 4) (a := n) (v := 0) (by decide) a2 a5 (Nat.le_refl _) (by decide) (fun hh => absurd (hh.2.2 (by decide)) (Nat.lt_irrefl _))
  have r11 : f230_after 0 25 1 B = some (-1, B) := by
    unfold f230_after
    rw [per0]
    by_cases hn : 0 < n
    · rw [if_pos hn]; rfl
    · rw [if_neg hn]; rfl
  have r12 : f230_after 0 (-1) 0 B = some (-1, B) := by
    unfold f230_after
    rw [per0]
    by_cases hn : 0 < n
    · rw [if_pos hn]; rfl
    · rw [if_neg hn]; rfl
  have r13 : f232_book 0 4 B = some (-2) := by
    unfold f232_book
    rw [h5]
    by_cases h0 : l = 0
    · subst h0
      rw [in_high (a := 0) (b := 0) (c := znn 0 - 1) (by decide)]
      rfl
    · rw [show znn l - 1 = znn (l - 1) by rw [zl1, zn_sub (by omega)], show f149_isIn 0 0 (znn (l - 1)) = some 1 from in_yes (x := 0) (lo := 0) (hi := l - 1) (Nat.le_refl _) (Nat.zero_le _) (by omega)]
      rfl
  have step : ∀ {fC fR : ZI → Option (Int32 × ZI)} {MM : ZI} {v : Int32}, sync fC fR → Inv2 MM B → (∀ o, 148 ≤ o → MM o = M o) → fR B = some (v, B) → ∃ M', fC MM = some (v, M') ∧ Inv2 M' B ∧ ∀ o, 148 ≤ o → M' o = M o := fun hsy hIM hMM hR => by
    obtain ⟨M', c1, c2, c3⟩ := call_r hsy hIM hR
    exact ⟨M', c1, c2, fun o ho => (c3 o ho).trans (hMM o ho)⟩
  obtain ⟨M1, b1, c1, d1⟩ := step (sync_years 0) hI (fun _ _ => rfl) r1
  obtain ⟨M2, b2, c2, d2⟩ := step (sync_years 41) c1 d1 r2
  obtain ⟨M3, b3, c3, d3⟩ := step (sync_person 100 0) c2 d2 r3
  obtain ⟨M4, b4, c4, d4⟩ := step (sync_person 0 25) c3 d3 r4
  obtain ⟨M5, b5, c5, d5⟩ := step (sync_tie 0 0 1) c4 d4 r5
  obtain ⟨M6, b6, c6, d6⟩ := step (sync_tie (-1) 0 1) c5 d5 r6
  obtain ⟨M7, b7, c7, d7⟩ := step (sync_sit 25) c6 d6 r7
  obtain ⟨M8, b8, c8, d8⟩ := step (sync_set 2 0 0) c7 d7 r8
  obtain ⟨M9, b9, c9, d9⟩ := step (sync_set 2 0 25) c8 d8 r9
  obtain ⟨M10, b10, c10, d10⟩ := step (sync_set 4 (znn n) 0) c9 d9 r10
  obtain ⟨M11, b11, c11, d11⟩ := step (sync_after 0 25 1) c10 d10 r11
  obtain ⟨M12, b12, c12, d12⟩ := step (sync_after 0 (-1) 0) c11 d11 r12
  obtain ⟨v13, p1, p2⟩ := syncP_book 0 4 M12 B c12
  rw [r13] at p2
  cases p2
  obtain ⟨M14, b14, c14, d14⟩ := step (sync_look 18) c12 d12 (look_r18 (B := B))
  obtain ⟨M', R', e1, -⟩ := land_same c14 (landIs_cls hc d14 a1) (by omega) a1 a5 a6 a3 a2
  refine ⟨M', R', ?_⟩
  unfold g152_k50
  rw [if_pos a1, b1, Option.bind_some]
  refine Eq.trans (if_pos rfl) ?_
  rw [b2, Option.bind_some]
  refine Eq.trans (if_pos rfl) ?_
  rw [b3, Option.bind_some]
  refine Eq.trans (if_pos rfl) ?_
  rw [b4, Option.bind_some]
  refine Eq.trans (if_pos rfl) ?_
  rw [b5, Option.bind_some]
  refine Eq.trans (if_pos rfl) ?_
  rw [b6, Option.bind_some]
  refine Eq.trans (if_pos rfl) ?_
  rw [b7, Option.bind_some]
  refine Eq.trans (if_pos rfl) ?_
  rw [b8, Option.bind_some]
  refine Eq.trans (if_pos rfl) ?_
  rw [b9, Option.bind_some]
  refine Eq.trans (if_pos rfl) ?_
  rw [if_pos go, d9 _ t148, f7, b10, Option.bind_some]
  refine Eq.trans (if_pos rfl) ?_
  rw [b11, Option.bind_some]
  refine Eq.trans (if_pos rfl) ?_
  rw [b12, Option.bind_some]
  refine Eq.trans (if_pos rfl) ?_
  rw [p1, Option.bind_some]
  refine Eq.trans (if_pos rfl) ?_
  rw [b14, Option.bind_some]
  refine Eq.trans (if_pos rfl) ?_
  rw [e1, Option.bind_some]
  exact if_neg (by decide)
theorem law_ok {sc : ZS} (hsc : sc.1 ≤ 1000) {M : ZI} {R : ZF} (hzA : zhA = some (M, R, zHc)) (hRL : ∀ z ∈ zRL, R z.1 z.2.1 = some z.2.2) (h0 : zI0 (gh M)) : ∃ h' : ZH, g152_law sc M R zHc = some (1, h') ∧ h'.2.2.length ≤ 600000 ∧ (h'.2.2.map Prod.snd).sum ≤ 7302250 := by
  obtain ⟨hlen, hsum⟩ := zHc_len
  have hz : zgood R zHc = true := by
    simp only [zgood, Bool.and_eq_true, decide_eq_true_eq, List.all_eq_true]
    exact ⟨by rw [List.take_of_length_le (by omega)], hRL⟩
  have hI : Inv2 M (gh M) := Inv2_of (first_Inv h0 (zB0_gh hzA)) (fun o ho => by funext j; show M o j = gh M o j; unfold gh; rw [if_pos ho]) (fun _ _ => rfl)
  generalize zHc = Z at *
  obtain ⟨t, b, n, k, M1, R1, L1, B1, e1, e2, e3, e4, e5, e6, e7, e8, e9, e10, e11, e12, X1, x1, x2, x3⟩ := land_ok (sc := sc) hsc hI hz (by omega) (fun j _ => gh_row M j) rfl
  have hl1 : L1.length ≤ 1048 := by rw [x1, List.length_append]; omega
  have o1 := e4.1.1
  -- the LAND is the same
  obtain ⟨M2, R2, s1, s2, B2, s3, s4⟩ := land_same e2 e4 (by omega) e3 e7 e8 e6 e5
  have h148 := zg_len e3
  have hg2 : gF (fun _ => False) M1 R1 L1 M2 R2 (L1 ++ [(0, 9)]) := gF_evo s2 h148
  have w149 : B2 149 = B1 149 := s4 149 (by decide) (by decide)
  have hw1 : LWx M1 R1 L1 B1 (fun _ => t) (fun _ => b) 0 n k 0 := LWx_reset e3 e5 e6 e7 e8 e11 e12 e4 ⟨0, by decide, e10⟩ ⟨0, Nat.le_refl _, e9⟩
  have hw2 : LWx M2 R2 (L1 ++ [(0, 9)]) B2 (fun _ => t) (fun _ => b) 0 n k 0 := LWx_B (LWx_gF hw1 hg2 (fun _ _ _ hh => hh.elim)) w149 (s4 151 (by decide) (by decide)) (by rw [s4 148 (by decide) (by decide)]) (by rw [s4 148 (by decide) (by decide)])
  -- the shelf
  generalize hL2 : L1 ++ [(0, 9)] = L2 at *
  have hl2 : L2.length = L1.length + 1 := by rw [← hL2]; simp
  have hg3 : gF (fun _ => False) M2 R2 L2 (zw M2 L2.length fun _ => 0) (zw R2 L2.length fun _ => none) (L2 ++ [(52, 6)]) := ⟨⟨_, rfl⟩, fun c _ hcc _ => ⟨zw_ne _ _ (by omega), zw_ne _ _ (by omega)⟩, fun c hcc => zw_ne _ _ (by omega)⟩
  have hw3 := LWx_gF hw2 hg3 (fun _ _ _ hh => hh.elim)
  have hI3 : Inv2 (zw M2 L2.length fun _ => 0) B2 := Inv2_of s3 (fun o ho => zw_ne _ _ (by omega)) (fun _ _ => rfl)
  have hs3 : SH (zw R2 L2.length fun _ => none) (L2 ++ [(52, 6)]) L2.length (fun _ => t) 0 := ⟨lay_new, by omega, fun j hj => absurd hj (Nat.not_lt_zero _)⟩
  obtain ⟨M4, R4, L4, B4, T4, Bb4, m4, k4, Y4, g1, g2, X4, y1, y2, y3⟩ := rounds (sc := sc) (k50 := g152_k50) (r14 := L2.length) hsc 20 0 zfu _ B2 _ _ (fun _ => t) (fun _ => b) 0 k 0 rfl (by rw [zfu_eq]; omega) ⟨hI3, hw3, hs3⟩ (by rw [List.length_append, List.length_cons, List.length_nil]; omega) (by decide)
  have hl4 : L4.length ≤ 20000 := by rw [y1, List.length_append, List.length_append, List.length_cons, List.length_nil]; omega
  obtain ⟨M5, R5, z1⟩ := law_end g2 (by omega)
  refine ⟨(M5, R5, L4 ++ [(0, 9)]), ?_, ?_, ?_⟩
  · rw [g152_entry, e1, Option.bind_some]
    unfold zopt
    show (if gob L1 t 10 = true then _ else _) = _
    rw [if_pos (gob_of o1 (by have := lay_le o1; omega)), s1, Option.bind_some]
    refine Eq.trans (if_neg (by decide)) ?_
    rw [if_pos (show gnn 6 = true by decide), if_pos (show gfr L2 = true from gfr_of (by omega)), gnew]
    exact Eq.trans g1 z1
  · show (L4 ++ [(0, 9)]).length ≤ 600000
    rw [List.length_append, List.length_cons, List.length_nil]
    omega
  · show ((L4 ++ [(0, 9)]).map Prod.snd).sum ≤ 7302250
    rw [y1, ← hL2, x1]
    simp only [List.map_append, List.sum_append, List.map_cons, List.map_nil, List.sum_cons, List.sum_nil]
    omega
