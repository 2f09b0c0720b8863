-- ===== the law's loop over the people =====
theorem of_two {B : ZI} {n p : Nat} (hn : n ≤ 10) (h48 : B 149 48 = znn n) (hp : p < n) : f229_of (znn p) 2 B = some (B 149 (70 + p), B) := by
  unfold f229_of
  rw [per_yes hn h48 hp]
  simp only [Option.bind_some]
  rw [if_neg (by decide), if_neg (by decide), if_neg (by decide), if_pos (by decide), show (70 : Int32) + znn p = znn (70 + p) from zn_add 70 p, if_pos (zin2064 (by omega)), zn_zi (by omega)]
/-- the memory of a new person's row -/
def perM (M : ZI) (r : Nat) (a d y : Nat) : ZI := zs (zs (zs (zs (zs (zs (zs (zw M r fun _ => 0) r 0 (znn a)) r 1 (znn d)) r 2 (znn y)) r 3 0) r 4 0) r 5 (-1)) r 6 0
theorem perM_ne {M : ZI} {r c a d y : Nat} (h : c ≠ r) : perM M r a d y c = M c := by
  unfold perM
  simp only [zs_ap, zwF_ap, if_neg h]
theorem perM_at {M : ZI} {r a d y : Nat} : perM M r a d y r 0 = znn a ∧ perM M r a d y r 1 = znn d ∧ perM M r a d y r 2 = znn y ∧ perM M r a d y r 3 = 0 ∧ perM M r a d y r 4 = 0 ∧ perM M r a d y r 5 = -1 ∧ perM M r a d y r 6 = 0 := by
  unfold perM
  simp [zs_ap, upd_ap]
theorem persons_loop {sc : ZS} {t b n : Nat} (K : ZI → ZF → ZY → Option (Option Nat × ZH)) (hsc : sc.1 ≤ 1000) (hn : n ≤ 10) (hb : b ≤ 100000) : ∀ m p fuel (M : ZI) (R : ZF) (L : ZY) (B : ZI), p + m = n → m < fuel → Inv2 M B → zgood R L = true → landIs M R L t b (B 149) p 0 → L.length = b + p → B 149 48 = znn p → B 148 19 = 0 → (∀ q, q < p → B 149 (7 + q) = 0) →
    ∃ M' R' L' B', g151_l266 sc 0 t (znn n) K fuel (znn p) M R L = K M' R' L' ∧ Inv2 M' B' ∧ zgood R' L' = true ∧ landIs M' R' L' t b (B' 149) n 0 ∧ L'.length = b + n ∧ B' 149 48 = znn n ∧ B' 148 19 = 0 ∧ B' 149 52 = B 149 52 ∧ (∀ j, j < 7 → B' 149 j = B 149 j) ∧ (∀ q, q < n → B' 149 (7 + q) = 0) ∧ ∃ X, L' = L ++ X ∧ X.length ≤ m ∧ (X.map Prod.snd).sum ≤ 7 * m := by
  intro m
  induction m with
  | zero =>
    intro p fuel M R L B hp hf hI hz h hL h48 h19 hti
    obtain ⟨fu, rfl⟩ : ∃ k, fuel = k + 1 := ⟨fuel - 1, by omega⟩
    have : p = n := by omega
    subst this
    refine ⟨M, R, L, B, ?_, hI, hz, h, hL, h48, h19, rfl, fun _ _ => rfl, hti, [], by simp, by simp, by simp⟩
    rw [g151_l266, if_neg (by rw [zn_lt (by omega) (by omega)]; omega)]
  | succ m ih =>
    intro p fuel M R L B hp hf hI hz h hL h48 h19 hti
    obtain ⟨fu, rfl⟩ : ∃ k, fuel = k + 1 := ⟨fuel - 1, by omega⟩
    obtain ⟨⟨o1, o2, o3, o4, o5, o6⟩, hF, ⟨hb', hP⟩, -, -, -, -⟩ := id h
    have h148 := zg_len hz
    have lt := lay_le o1
    have l1 := lay_le o2
    obtain ⟨v56, ec⟩ := cell_ok (k := 2 + p % 3) hsc (by omega)
    generalize hx : v56 + 229 * znn p = x
    let a := bw x 100
    let d := bw (zshr x 3) 25
    let y := bw (zshr x 5) 13
    have ha : a < 100 := bw_lt _ (by decide)
    have hd : d < 25 := bw_lt _ (by decide)
    have hy : y < 13 := bw_lt _ (by decide)
    let Q := L.length
    let L1 : ZY := L ++ [(0, 7)]
    let M1 : ZI := perM M Q a d y
    let R1 : ZF := zr (zw R Q fun _ => none) (t + 1) p (some Q)
    have hQ1 : L1[Q]? = some (0, 7) := lay_new
    have hL1 : L1.length = L.length + 1 := by simp [L1]
    have tQ : t ≠ Q := by show t ≠ L.length; omega
    have t1Q : t + 1 ≠ Q := by show t + 1 ≠ L.length; omega
    have hR1o : ∀ c, c ≠ Q → c ≠ t + 1 → R1 c = R c := fun c q1 q2 => by
      show zr (zw R Q fun _ => none) (t + 1) p (some Q) c = R c
      simp only [zr_ap, zwF_ap, if_neg q1, if_neg q2]
    have hR1a : ∀ j, R1 (t + 1) j = if j = p then some Q else R (t + 1) j := fun j => by
      show zr (zw R Q fun _ => none) (t + 1) p (some Q) (t + 1) j = _
      simp only [zr_ap, zwF_ap, if_true, if_neg t1Q]
    obtain ⟨p0, p1, p2, p3, p4, p5, p6⟩ := perM_at (M := M) (r := Q) (a := a) (d := d) (y := y)
    have hg1 : gF (fun c => c = t + 1) M R L M1 R1 L1 := ⟨⟨_, rfl⟩, fun c _ hc hh => ⟨perM_ne (by show c ≠ L.length; omega), hR1o c (by show c ≠ L.length; omega) hh⟩, fun c hc => hR1o c (by show c ≠ L.length; omega) (by omega)⟩
    have hz1 : zgood R1 L1 = true := zgood_gF hg1 hz
    have hI1 : Inv2 M1 B := Inv2_of hI (fun o ho => perM_ne (by show o ≠ L.length; omega)) (fun _ _ => rfl)
    -- the class's calls
    obtain ⟨B2, r1, r2, r3, r4, r5, r6, r7, r8, r9, r10, r11, r12, r13⟩ := person_r (B := B) (n := p) (a := a) (d := d) (by omega) h48 (by omega) (by omega)
    obtain ⟨M2, c1, c2, c3⟩ := call_r (sync_person (znn a) (znn d)) hI1 r1
    have hof : f229_of (znn p) 2 B2 = some (999, B2) := by rw [of_two (n := p + 1) (by omega) r5 (by omega), r8]
    obtain ⟨M3, d1, d2, d3⟩ := call_r (sync_of (znn p) 2) c2 hof
    obtain ⟨B3, s1, s2, s3, s4, s5⟩ := set_yes (B := B2) (n := p + 1) (what := 4) (a := p) (v := y) (by decide) (by omega) r5 (by omega) (by omega) ⟨by show y ≤ 999; omega, fun hh => absurd hh (by decide), fun _ => Nat.lt_succ_self _⟩
    obtain ⟨M4, e1, e2, e3⟩ := call_r (sync_set (znn 4) (znn p) (znn y)) d2 s1
    have hcols : ∀ j, j ≠ 48 → j ≠ 17 + p → j ≠ 60 + p → j ≠ 70 + p → j ≠ 27 + p → j ≠ 37 + p → j ≠ 7 + p → j ≠ 80 + p → B3 149 j = B 149 j := fun j q1 q2 q3 q4 q5 q6 q7 q8 => by
      rw [s5, if_neg (show j ≠ plc 4 p from q4), r13 j q1 q2 q3 q4 q5 q6 q7 q8]
    have h48' : B3 149 48 = znn (p + 1) := by rw [s5, if_neg (show 48 ≠ plc 4 p by show 48 ≠ 70 + p; omega), r5]
    have hM4 : ∀ c, 148 ≤ c → M4 c = M1 c := fun c hc => by rw [e3 c hc, d3 c hc, c3 c hc]
    let M5 : ZI := zs M4 t 7 (znn (p + 1))
    have f7 : M1 t 7 = znn p := by
      show perM M Q a d y t 7 = _
      rw [perM_ne tQ]; exact hF.2.2.2.2.2.2.2.1.trans h48
    have eM5 : ∀ c, 148 ≤ c → c ≠ t → M5 c = M1 c := fun c q1 q2 => by
      show zs M4 t 7 (znn (p + 1)) c = _
      rw [zs_ap, if_neg q2, hM4 c q1]
    have hQb : b + p = Q := hL.symm
    have hland : landIs M5 R1 L1 t b (B3 149) (p + 1) 0 := by
      refine landIs_push h (by omega) (by decide) (Inv2_rule hI) hz hL (fun c q1 hc hct => ?_) (fun j hj => ?_) ?_ (fun c hc hct => hR1o c (by show c ≠ L.length; omega) hct) (fun j => by rw [hR1a, hQb]) ?_ hcols
      · rw [eM5 c q1 hct]
        exact perM_ne (by show c ≠ L.length; omega)
      · show zs M4 t 7 (znn (p + 1)) t j = _
        rw [zs_sm, if_neg hj, hM4 t o6]
        exact congrFun (perM_ne tQ) j
      · show zs M4 t 7 (znn (p + 1)) t 7 = _
        rw [zs_sm, if_pos rfl, h48']
      · unfold lndQ
        rw [hQb, eM5 Q (by show 148 ≤ L.length; omega) (Ne.symm tQ)]
        refine ⟨?_, ?_, ?_, ?_, ?_, ?_, ?_⟩
        · rw [s5, if_neg (show 17 + p ≠ plc 4 p by show 17 + p ≠ 70 + p; omega), r6]; exact p0
        · rw [s5, if_neg (show 60 + p ≠ plc 4 p by show 60 + p ≠ 70 + p; omega), r7]; exact p1
        · rw [s5, if_pos (show 70 + p = plc 4 p from rfl)]; exact p2
        · rw [s5, if_neg (show 27 + p ≠ plc 4 p by show 27 + p ≠ 70 + p; omega), r9]; exact p3
        · rw [s5, if_neg (show 37 + p ≠ plc 4 p by show 37 + p ≠ 70 + p; omega), r10]; exact p4
        · rw [s5, if_neg (show 80 + p ≠ plc 4 p by show 80 + p ≠ 70 + p; omega), r12]; exact p5
        · rw [s5, if_neg (show 7 + p ≠ plc 4 p by show 7 + p ≠ 70 + p; omega), r11]; exact p6
    have hI5 : Inv2 M5 B3 := Inv2_of e2 (fun o ho => by show zs M4 t 7 (znn (p + 1)) o = _; rw [zs_ap, if_neg (by omega)]) (fun _ _ => rfl)
    obtain ⟨M', R', L', B', g1, g2, g3, g4, g5, g6, g7, g8, g9, gt, X, g10, g11, g12⟩ := ih (p + 1) fu M5 R1 L1 B3 (by omega) (by omega) hI5 hz1 hland (by omega) h48' (by rw [s3 19 (by decide), r3 19 (by decide)]; exact h19) (fun q hq => by
      by_cases hqp : q = p
      · subst hqp
        rw [s5, if_neg (show 7 + q ≠ plc 4 q by show 7 + q ≠ 70 + q; omega), r11]
      · rw [hcols (7 + q) (by omega) (by omega) (by omega) (by omega) (by omega) (by omega) (by omega) (by omega)]; exact hti q (by omega))
    refine ⟨M', R', L', B', ?_, g2, g3, g4, g5, g6, g7, by rw [g8, hcols 52 (by decide) (by omega) (by omega) (by omega) (by omega) (by omega) (by omega) (by omega)], fun j hj => by rw [g9 j hj, hcols j (by omega) (by omega) (by omega) (by omega) (by omega) (by omega) (by omega) (by omega)], gt, [(0, 7)] ++ X, by rw [g10]; simp [L1], by simp; omega, by simp; omega⟩
    have hrem : zrem (znn p) 3 = znn (p % 3) := zrem_n (b := 3) (by omega) (by decide) (by decide)
    have ec' : g114_cell sc ((0 : Int32) + 2 + zrem (znn p) 3) = some v56 := by
      rw [hrem, show (0 : Int32) + 2 = znn 2 from rfl, zn_add]; exact ec
    have b0 : g115_between x 0 99 = some (znn a) := btw0 (hi := 99) _ (by decide)
    have b1 : g115_between (zshr x 3) 0 24 = some (znn d) := btw0 (hi := 24) _ (by decide)
    have b2 : g115_between (zshr x 5) 0 12 = some (znn y) := btw0 (hi := 12) _ (by decide)
    have gQ : ∀ j, j < 7 → gar L1 Q 0 (znn j) = true := fun j hj => gar7 hQ1 (by omega) hj
    have go : gob L t 10 = true := gob_of o1 (by omega)
    have go1 : gob L1 t 10 = true := gob_app go
    have gp : gar L1 (t + 1) 51 (znn p) = true := gar10 (lay_app o2) (by omega) (by omega)
    have eR10 : R1 t 10 = some (t + 1) := by rw [hR1o t tQ (by omega)]; exact o4
    have eR1p : R1 (t + 1) p = some Q := by rw [hR1a, if_pos rfl]
    rw [g151_l266, if_pos ((zn_lt (by omega) (by omega)).mpr (by omega)), ec']
    simp only [Option.bind_some, zlet, gnew]
    rw [hx, if_pos go, o4]
    simp only [Option.bind_some]
    rw [if_pos (show gnn 7 = true by decide), if_pos (gfr_of (by omega)), show L.length = Q from rfl, show L ++ [(0, zi 7)] = L1 from rfl, b0]
    simp only [Option.bind_some]
    rw [if_pos (show gar L1 Q 0 0 = true from gQ 0 (by decide)), b1]
    simp only [Option.bind_some]
    rw [if_pos (show gar L1 Q 0 1 = true from gQ 1 (by decide)), b2]
    simp only [Option.bind_some]
    rw [if_pos (show gar L1 Q 0 2 = true from gQ 2 (by decide)), if_pos (show gar L1 Q 0 3 = true from gQ 3 (by decide)), if_pos (show gar L1 Q 0 4 = true from gQ 4 (by decide)), if_pos (show gar L1 Q 0 5 = true from gQ 5 (by decide)), if_pos (show gar L1 Q 0 6 = true from gQ 6 (by decide)), if_pos gp, if_pos (show gek L1 Q 0 = true from gek_of hQ1), if_pos go1, zn_zi (show p < 2147483648 by omega)]
    rw [show zi (0 : Int32) = 0 from rfl, show zi (1 : Int32) = 1 from rfl, show zi (2 : Int32) = 2 from rfl, show zi (3 : Int32) = 3 from rfl, show zi (4 : Int32) = 4 from rfl, show zi (5 : Int32) = 5 from rfl, show zi (6 : Int32) = 6 from rfl, show zr (zw R Q fun _ => none) (t + 1) p (some Q) = R1 from rfl, show zs (zs (zs (zs (zs (zs (zs (zw M Q fun _ => 0) Q 0 (znn a)) Q 1 (znn d)) Q 2 (znn y)) Q 3 0) Q 4 0) Q 5 (-1)) Q 6 0 = M1 from rfl, eR10]
    simp only [Option.bind_some]
    rw [if_pos gp, eR1p]
    simp only [Option.bind_some]
    rw [if_pos (show gar L1 Q 0 0 = true from gQ 0 (by decide)), if_pos (show gar L1 Q 0 1 = true from gQ 1 (by decide)), if_pos hz1, show M1 Q 0 = znn a from p0, show M1 Q 1 = znn d from p1, c1]
    simp only [Option.bind_some]
    rw [if_pos trivial, d1]
    simp only [Option.bind_some]
    rw [if_pos trivial, if_pos (show gar L1 Q 0 2 = true from gQ 2 (by decide)), show M3 Q 2 = znn y by rw [d3 Q (by show 148 ≤ L.length; omega), c3 Q (by show 148 ≤ L.length; omega)]; exact p2, show f15_set 4 (znn p) (znn y) M3 = some (1, M4) from e1]
    simp only [Option.bind_some]
    rw [if_neg (by decide), hM4 t o6, f7, zadd1]
    exact g1
