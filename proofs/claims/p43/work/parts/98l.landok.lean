-- ===== the whole of the law's land() =====
theorem landIs_state {M : ZI} {R : ZF} {L : ZY} {t b n k : Nat} {v : Int32} {w w' : Nat → Int32} (h : landIs M R L t b w n k) (hn : n ≤ 10) (hk : k ≤ 9) (hz : zgood R L = true) (hr : ruleOk w) (hw : ∀ j, w' j = if j = 4 then v else w j) : landIs (zs M t 0 v) R L t b w' n k := by
  obtain ⟨hO, hF, ⟨hb, hP⟩, hW, -, hC, -⟩ := id h
  have hP7 : ∀ p, p < n → L[b + p]? = some (0, 7) := fun p hp => (hP p hp).2.1
  have hne : ∀ p, p < n → b + p ≠ t := fun p hp he => by
    have := hP7 p hp
    rw [he, hO.1] at this
    cases this
  have hg : gF (own2 t b n) M R L (zs M t 0 v) R L := ⟨⟨[], by simp⟩, fun c q1 _ hh => ⟨by rw [zs_ap, if_neg (fun he => hh (Or.inl he))], rfl⟩, fun _ _ => rfl⟩
  have hk2 : ∀ j, j ≠ 4 → w' j = w j := fun j hj => by rw [hw, if_neg hj]
  have hwk : w' 4 = v := by rw [hw, if_pos rfl]
  refine landIs_upd h hn hg (fun _ _ => rfl) ?_ (fun p hp => ?_) (lndW_keep hW hO hP7 hg rfl (fun i f hi hf => hk2 _ (by omega))) (lndC_keep hC hO hP7 hg hz rfl (fun S _ => sSat_on hr (hk2 54 (by omega)) (fun i hi => hk2 _ (by omega)) S)) (hk2 5 (by omega)) (fun i f hi hf => hk2 _ (by omega)) (hk2 58 (by omega)) (fun x hx => hk2 x (by omega))
  · obtain ⟨f0, f1, f2, f3, f4, f5, f6, f7, f8, f9⟩ := hF
    unfold lndF
    simp only [zs_sm]
    rw [hwk, hk2 0 (by decide), hk2 1 (by decide), hk2 49 (by decide), hk2 50 (by decide), hk2 2 (by decide), hk2 3 (by decide), hk2 48 (by decide), hk2 5 (by decide), hk2 6 (by decide)]
    exact ⟨rfl, f1, f2, f3, f4, f5, f6, f7, f8, f9⟩
  · unfold lndQ
    rw [zs_df (hne p hp), hk2 (17 + p) (by omega), hk2 (60 + p) (by omega), hk2 (70 + p) (by omega), hk2 (27 + p) (by omega), hk2 (37 + p) (by omega), hk2 (80 + p) (by omega), hk2 (7 + p) (by omega)]
    exact (hP p hp).2.2
/-- the law's land() makes a LAND that is what the reference then is -/
theorem land_ok {sc : ZS} {M B : ZI} {R : ZF} {L : ZY} (hsc : sc.1 ≤ 1000) (hI : Inv2 M B) (hz : zgood R L = true) (hL : L.length ≤ 1000) (hB : ∀ j, j < 578 → B 149 j = if j = 49 then 2 else if j = 50 then 12 else 0) (h19 : B 148 19 = 0) : ∃ t b n k M' R' L' B', g151_land sc 0 M R L = some (some t, M', R', L') ∧ Inv2 M' B' ∧ zgood R' L' = true ∧ landIs M' R' L' t b (B' 149) n k ∧ n ≤ 10 ∧ k ≤ 9 ∧ B' 149 48 = znn n ∧ B' 149 52 = znn k ∧ B' 149 0 = 0 ∧ B' 149 5 = 0 ∧ B' 148 19 = 0 ∧ B' 148 4 = 0 ∧ ∃ X, L' = L ++ X ∧ X.length ≤ 900 ∧ (X.map Prod.snd).sum ≤ 70000 := by
  obtain ⟨v10, M1, R1, L1, B1, a1, a2, a3, a4, a5, a6, x1⟩ := land_start (g151_t sc 0) hsc hI hz hL hB h19
  let t := L.length
  let n := bw (zshr v10 5) 11
  have hn : n ≤ 10 := by have := bw_lt (zshr v10 5) (show 0 < 11 by decide); show bw _ _ ≤ 10; omega
  obtain ⟨X1, x11, x12, x13⟩ := id x1
  have hl1 : L1.length ≤ 1060 := by rw [x11]; simp; omega
  have b48 : B1 149 48 = znn 0 := by rw [a5 48 (by decide) (by decide), hB 48 (by decide)]; rfl
  obtain ⟨v6, c6⟩ := cell_ok (k := 6) hsc (by decide)
  obtain ⟨v7, c7⟩ := cell_ok (k := 7) hsc (by decide)
  obtain ⟨v8, c8⟩ := cell_ok (k := 8) hsc (by decide)
  -- people
  obtain ⟨M2, R2, L2, B2, p1, p2, p3, p4, p5, p6, p7, p8, p9, p10, x2⟩ := persons_loop (sc := sc) (t := t) (b := L1.length) (n := n) (fun (M101 : ZI) (R102 : ZF) (L103 : ZY) => g151_l433 sc 0 t v10 (znn n) R102 L103 (fun (M145 : ZI) => (g115_between (zshr v10 (4 : Int32)) (0 : Int32) (16 : Int32)).bind fun v151 => if gob L103 t 10 = true then zlet (zs M145 t 2 v151) fun (M153 : ZI) => (g115_between (zshr v10 (6 : Int32)) (0 : Int32) (6 : Int32)).bind fun v154 => zlet (zs M153 t 3 v154) fun (M155 : ZI) => (g115_between (zshr v10 (8 : Int32)) (1 : Int32) (24 : Int32)).bind fun v156 => zlet (zs M155 t 4 v156) fun (M157 : ZI) => if zgood R102 L103 = true then (f15_set (0 : Int32) (0 : Int32) (M157 t 2) M157).bind fun (v159, M160) => (if v159 = 0 then some (none, M160, R102, L103) else (f15_set (1 : Int32) (0 : Int32) (M160 t 3) M160).bind fun (v161, M162) => (if v161 = 0 then some (none, M162, R102, L103) else (f15_set (2 : Int32) (0 : Int32) (M162 t 4) M162).bind fun (v163, M164) => (if v163 = 0 then some (none, M164, R102, L103) else (g114_cell sc (0 + (6 : Int32))).bind fun v165 => (g116_texts t v165 M164 R102 L103).bind fun (v166, M167, R168, L169) => (if v166 = 0 then some (none, M167, R168, L169) else (g114_cell sc (0 + (7 : Int32))).bind fun v170 => (g146_council t v170 M167 R168 L169).bind fun (v171, M172, R173, L174) => (if v171 = 0 then some (none, M172, R173, L174) else (g114_cell sc (0 + (8 : Int32))).bind fun v175 => if gob L174 t 10 = true then zlet (zs M172 t 0 v175) fun (M177 : ZI) => if zgood R173 L174 = true then (f10_state (M177 t 0) M177).bind fun (v179, M180) => some (some t, M180, R173, L174) else none else none))))) else none else none) zfu (0 : Int32) M101) hsc hn (by omega) n 0 zfu M1 R1 L1 B1 (Nat.zero_add _) (by rw [zfu_eq]; omega) a2 a3 a4 rfl b48 a6 (fun q hq => absurd hq (Nat.not_lt_zero _))
  obtain ⟨X2, x21, x22, x23⟩ := id x2
  have hl2 : L2.length ≤ 1070 := by omega
  -- ties
  obtain ⟨M3, B3, t1, t2, t3, t4, t5, t6⟩ := ties_loop (sc := sc) (v10 := v10) (R := R2) (L := L2) (fun (M145 : ZI) => (g115_between (zshr v10 (4 : Int32)) (0 : Int32) (16 : Int32)).bind fun v151 => if gob L2 t 10 = true then zlet (zs M145 t 2 v151) fun (M153 : ZI) => (g115_between (zshr v10 (6 : Int32)) (0 : Int32) (6 : Int32)).bind fun v154 => zlet (zs M153 t 3 v154) fun (M155 : ZI) => (g115_between (zshr v10 (8 : Int32)) (1 : Int32) (24 : Int32)).bind fun v156 => zlet (zs M155 t 4 v156) fun (M157 : ZI) => if zgood R2 L2 = true then (f15_set (0 : Int32) (0 : Int32) (M157 t 2) M157).bind fun (v159, M160) => (if v159 = 0 then some (none, M160, R2, L2) else (f15_set (1 : Int32) (0 : Int32) (M160 t 3) M160).bind fun (v161, M162) => (if v161 = 0 then some (none, M162, R2, L2) else (f15_set (2 : Int32) (0 : Int32) (M162 t 4) M162).bind fun (v163, M164) => (if v163 = 0 then some (none, M164, R2, L2) else (g114_cell sc (0 + (6 : Int32))).bind fun v165 => (g116_texts t v165 M164 R2 L2).bind fun (v166, M167, R168, L169) => (if v166 = 0 then some (none, M167, R168, L169) else (g114_cell sc (0 + (7 : Int32))).bind fun v170 => (g146_council t v170 M167 R168 L169).bind fun (v171, M172, R173, L174) => (if v171 = 0 then some (none, M172, R173, L174) else (g114_cell sc (0 + (8 : Int32))).bind fun v175 => if gob L174 t 10 = true then zlet (zs M172 t 0 v175) fun (M177 : ZI) => if zgood R173 L174 = true then (f10_state (M177 t 0) M177).bind fun (v179, M180) => some (some t, M180, R173, L174) else none else none))))) else none else none) hsc hn p3 (by omega) (bw (zshr v10 7) 13) 0 zfu M2 B2 (Nat.zero_add _) (by have := bw_lt (zshr v10 7) (show 0 < 13 by decide); rw [zfu_eq]; omega) p2 p4 p6 p7 (fun x y hx hy => by rw [p10 x hx, p10 y hy]; show (0 : Nat).testBit y = (0 : Nat).testBit x; rw [Nat.zero_testBit, Nat.zero_testBit])
  -- wear, rest, limit
  let wv := bw (zshr v10 4) 17
  let rv := bw (zshr v10 6) 7
  let lv := 1 + bw (zshr v10 8) 24
  have hwv : wv < 17 := bw_lt _ (by decide)
  have hrv : rv < 7 := bw_lt _ (by decide)
  have hlv : 1 ≤ lv ∧ lv ≤ 24 := by have := bw_lt (zshr v10 8) (show 0 < 24 by decide); show 1 ≤ 1 + bw _ _ ∧ 1 + bw _ _ ≤ 24; omega
  have eb1 : g115_between (zshr v10 4) 0 16 = some (znn wv) := btw0 (hi := 16) _ (by decide)
  have eb2 : g115_between (zshr v10 6) 0 6 = some (znn rv) := btw0 (hi := 6) _ (by decide)
  have eb3 : g115_between (zshr v10 8) 1 24 = some (znn lv) := btw (lo := 1) (hi := 24) _ (by decide) (by decide)
  let M4 : ZI := zs (zs (zs M3 t 2 (znn wv)) t 3 (znn rv)) t 4 (znn lv)
  have ht148 : 148 ≤ t := zg_len hz
  have hI4 : Inv2 M4 B3 := Inv2_of t2 (fun o ho => by show zs (zs (zs M3 t 2 _) t 3 _) t 4 _ o = _; simp only [zs_ap, if_neg (show ¬ o = t by omega)]) (fun _ _ => rfl)
  obtain ⟨B4, s1, s2, s3, s4, s5⟩ := set_yes (B := B3) (n := n) (what := 0) (a := 0) (v := wv) (by decide) hn t4 (Nat.zero_le _) (by omega) ⟨by show wv ≤ 24; omega, fun hh => absurd hh (by decide), fun hh => absurd hh (by decide)⟩
  obtain ⟨M5, d1, d2, d3⟩ := call_r (sync_set (znn 0) (znn 0) (znn wv)) hI4 s1
  obtain ⟨B5, u1, u2, u3, u4, u5⟩ := set_yes (B := B4) (n := n) (what := 1) (a := 0) (v := rv) (by decide) hn (by rw [s5, if_neg (by decide)]; exact t4) (Nat.zero_le _) (by omega) ⟨by show rv ≤ 24; omega, fun hh => absurd hh (by decide), fun hh => absurd hh (by decide)⟩
  obtain ⟨M6, e1, e2, e3⟩ := call_r (sync_set (znn 1) (znn 0) (znn rv)) d2 u1
  obtain ⟨B6, w1, w2, w3, w4, w5⟩ := set_yes (B := B5) (n := n) (what := 2) (a := 0) (v := lv) (by decide) hn (by rw [u5, if_neg (by decide), s5, if_neg (by decide)]; exact t4) (Nat.zero_le _) (by omega) ⟨hlv.2, fun _ => hlv.1, fun hh => absurd hh (by decide)⟩
  obtain ⟨M7, f1, f2, f3⟩ := call_r (sync_set (znn 2) (znn 0) (znn lv)) e2 w1
  have hru3 := Inv2_rule t2
  have hl4 : landIs M4 R2 L2 t L1.length (B6 149) n 0 := by
    have hru4 := Inv2_rule d2
    have hru5 := Inv2_rule e2
    have q1 := landIs_put (what := 0) (a := 0) (v := znn wv) (w' := B4 149) t3 hn (by decide) p3 hru3 (by decide) (fun hh => absurd hh (by decide)) (by decide) s5
    have q2 := landIs_put (what := 1) (a := 0) (v := znn rv) (w' := B5 149) q1 hn (by decide) p3 hru4 (by decide) (fun hh => absurd hh (by decide)) (by decide) u5
    exact landIs_put (what := 2) (a := 0) (v := znn lv) (w' := B6 149) q2 hn (by decide) p3 hru5 (by decide) (fun hh => absurd hh (by decide)) (by decide) w5
  have hM7 : ∀ c, 148 ≤ c → M7 c = M4 c := fun c hc => by rw [f3 c hc, e3 c hc, d3 c hc]
  have hl7 : landIs M7 R2 L2 t L1.length (B6 149) n 0 := landIs_cls hl4 hM7 p3
  have hc6 : ∀ j, j ≠ 1 → j ≠ 49 → j ≠ 50 → B6 149 j = B3 149 j := fun j q1 q2 q3 => by
    rw [w5, if_neg (show j ≠ plc 2 0 from q3), u5, if_neg (show j ≠ plc 1 0 from q2), s5, if_neg (show j ≠ plc 0 0 from q1)]
  -- texts and council
  obtain ⟨M8, R8, L8, B8, k, g1, hk, g3, g4, g5, ⟨g6, g7, g8, g9, g10⟩, -, -, x8⟩ := texts_ok v6 f2 hl7 p3 (by omega) (by rw [hc6 48 (by decide) (by decide) (by decide)]; exact t4) hn (by rw [w3 19 (by decide), u3 19 (by decide), s3 19 (by decide)]; exact t5)
  have hz8 := zgood_gF g5 p3
  obtain ⟨X8, x81, x82, x83⟩ := id x8
  have b8n : B8 149 48 = znn n := by rw [g7 48 (by decide) (by decide) (by decide) (by decide), hc6 48 (by decide) (by decide) (by decide)]; exact t4
  obtain ⟨M9, R9, L9, B9, i1, i2, i3, i4, ⟨i5, i6, i7, i8⟩, -, -, x9⟩ := council_ok v7 g3 g4 hz8 (by rw [x81]; simp; omega) b8n hn hk g9
  have hz9 := zgood_gF i4 hz8
  -- the state
  obtain ⟨vs, B10, j1, j2, j3, j4, j5⟩ := state_r B9 v8
  let M10 : ZI := zs M9 t 0 v8
  have hI10 : Inv2 M10 B9 := Inv2_of i2 (fun o ho => by show zs M9 t 0 v8 o = _; rw [zs_ap, if_neg (by omega)]) (fun _ _ => rfl)
  obtain ⟨M11, k1, k2, k3⟩ := call_r (sync_state v8) hI10 j1
  have hl10 : landIs M10 R9 L9 t L1.length (B10 149) n k := landIs_state i3 hn hk hz9 (Inv2_rule i2) j5
  have o1 := i3.1.1
  have hcB : ∀ j, j ≠ 1 → j ≠ 4 → j ≠ 6 → j ≠ 58 → j < 7 → B10 149 j = B 149 j := fun j q1 q2 q3 q4 q5 => by
    rw [j5, if_neg q2, i6 j (by omega) (by omega) (by omega), g7 j q3 (by omega) (by omega) (by omega), hc6 j q1 (by omega) (by omega), t6 j (by omega), p9 j (by omega), a5 j (by omega) (by omega)]
  refine ⟨t, L1.length, n, k, M11, R9, L9, B10, ?_, k2, hz9, landIs_cls hl10 k3 hz9, hn, hk, ?_, ?_, ?_, ?_, ?_, j4, ?_⟩
  · rw [g151_split, a1]
    unfold g151_t
    rw [show g115_between (zshr v10 5) 0 10 = some (znn n) from btw0 (hi := 10) _ (by decide)]
    simp only [Option.bind_some]
    refine Eq.trans p1 ?_
    refine Eq.trans t1 ?_
    show (g115_between (zshr v10 4) 0 16).bind _ = _
    rw [eb1]
    simp only [Option.bind_some]
    rw [if_pos (gob_of t3.1.1 (by have := lay_le t3.1.1; omega))]
    simp only [zlet]
    rw [eb2]
    simp only [Option.bind_some]
    rw [eb3]
    simp only [Option.bind_some]
    rw [if_pos p3, show zs (zs (zs M3 t 2 (znn wv)) t 3 (znn rv)) t 4 (znn lv) = M4 from rfl, show M4 t 2 = znn wv by show zs (zs (zs M3 t 2 _) t 3 _) t 4 _ t 2 = _; simp [zs_sm], show f15_set 0 0 (znn wv) M4 = some (1, M5) from d1]
    simp only [Option.bind_some]
    rw [if_neg (by decide), show M5 t 3 = znn rv by rw [d3 t ht148]; show zs (zs (zs M3 t 2 _) t 3 _) t 4 _ t 3 = _; simp [zs_sm], show f15_set 1 0 (znn rv) M5 = some (1, M6) from e1]
    simp only [Option.bind_some]
    rw [if_neg (by decide), show M6 t 4 = znn lv by rw [e3 t ht148, d3 t ht148]; show zs (zs (zs M3 t 2 _) t 3 _) t 4 _ t 4 = _; simp [zs_sm], show f15_set 2 0 (znn lv) M6 = some (1, M7) from f1]
    simp only [Option.bind_some]
    rw [if_neg (by decide), show g114_cell sc (0 + 6) = some v6 from c6]
    simp only [Option.bind_some]
    rw [g1]
    simp only [Option.bind_some]
    rw [if_neg (by decide), show g114_cell sc (0 + 7) = some v7 from c7]
    simp only [Option.bind_some]
    rw [i1]
    simp only [Option.bind_some]
    rw [if_neg (by decide), show g114_cell sc (0 + 8) = some v8 from c8]
    simp only [Option.bind_some]
    obtain ⟨X9, x91, x92, x93⟩ := id x9
    rw [if_pos (gob_of o1 (by have := lay_le o1; rw [x91, x81] at this; simp at this; omega)), if_pos hz9, show zs M9 t 0 v8 = M10 from rfl, show M10 t 0 = v8 by show zs M9 t 0 v8 t 0 = _; simp [zs_sm], k1]
    rfl
  · rw [j5, if_neg (by decide), i6 48 (by decide) (by decide) (by decide)]; exact b8n
  · rw [j5, if_neg (by decide), i6 52 (by decide) (by decide) (by decide)]; exact g8
  · rw [hcB 0 (by decide) (by decide) (by decide) (by decide) (by decide), hB 0 (by decide)]; rfl
  · rw [hcB 5 (by decide) (by decide) (by decide) (by decide) (by decide), hB 5 (by decide)]; rfl
  · rw [j3 19 (by decide)]; exact i7
  · obtain ⟨X, z1, z2, z3⟩ := room_add (room_add (room_add x1 x2) x8) x9
    exact ⟨X, z1, by omega, by omega⟩
