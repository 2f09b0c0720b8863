-- ===== the text of a rule of two rules =====
theorem text_head {F r ca cb s6 a1 a5 : Nat} {y : Int32 × Nat} {c cl cr : Bool} {M M1 M2 M3 M4 M5 M6 M7 : ZI} {R R1 R2 R3 R4 R5 R6 R7 : ZF} {L L1 L2 L3 L4 L5 L6 L7 : ZY} (hop : nK y = 2 ∨ nK y = 3) (hcl : cl = decide (nK y = 2 ∧ nK (nL y) = 3)) (hcr : cr = decide (1 < nK (nR y))) (gf : gfr L = true) (gi : gin L.length = true) (hob : gob L r 13 = true) (h3 : M r 0 = znn (nK y))
    (e1 : g117_init L.length (zw M L.length fun _ => 0) (zw R L.length fun _ => none) (L ++ [(14, 4)]) = some (M1, R1, L1))
    (k1 : gob L1 r 13 = true) (k2 : M1 r 0 = znn (nK y)) (k3 : R1 r 2 = some ca) (k5 : gob L1 ca 13 = true) (k7 : M1 ca 0 = znn (nK (nL y)))
    (e2 : g149_text F ca (b01 cl) M1 R1 L1 = some (a1, M2, R2, L2)) (b2 : gob L2 L.length 11 = true)
    (e3 : g128_append L.length a1 M2 R2 L2 = some (L.length, M3, R3, L3)) (b3 : gob L3 L.length 11 = true) (m1 : gob L3 r 13 = true) (m2 : M3 r 0 = znn (nK y))
    (e4 : g128_append L.length (if nK y = 2 then 2000011 else 2000012) M3 R3 L3 = some (L.length, M4, R4, L4))
    (n1 : gob L4 r 13 = true) (n4 : R4 r 3 = some cb) (n6 : gob L4 cb 13 = true) (n8 : M4 cb 0 = znn (nK (nR y)))
    (e5 : g149_text F cb (b01 cr) M4 R4 L4 = some (a5, M5, R5, L5)) (b5 : gob L5 L.length 11 = true)
    (e6 : g128_append L.length a5 M5 R5 L5 = some (L.length, M6, R6, L6)) (b6 : gob L6 L.length 11 = true)
    (e7 : g133_toString L.length M6 R6 L6 = some (s6, M7, R7, L7)) : g149_text (F + 1) r (b01 c) M R L = (if b01 c = 0 then some (s6, M7, R7, L7) else if gfr L7 = true then gnew M7 R7 L7 14 4 fun (r54 : Nat) (M55 : ZI) (R56 : ZF) (L57 : ZY) => if gin r54 = true then (g117_init r54 M55 R56 L57).bind fun (M59, R60, L61) => if gob L61 r54 11 = true then (g128_append r54 2000013 M59 R60 L61).bind fun (r63, M64, R65, L66) => if gob L66 r63 11 = true then (g128_append r63 s6 M64 R65 L66).bind fun (r68, M69, R70, L71) => if gob L71 r68 11 = true then (g128_append r68 2000014 M69 R70 L71).bind fun (r73, M74, R75, L76) => if gob L76 r73 11 = true then (g133_toString r73 M74 R75 L76).bind fun (r78, M79, R80, L81) => some (r78, M79, R80, L81) else none else none else none else none else none else none) := by
  rw [show g149_text (F + 1) = g149_text_b (g149_text F) from rfl]
  unfold g149_text_b
  rw [if_pos hob, h3, if_neg (show ¬ znn (nK y) = 0 by rw [zl0, zn_eq (by omega) (by decide)]; omega), if_neg (show ¬ znn (nK y) = 1 by rw [zl1, zn_eq (by omega) (by decide)]; omega), if_pos gf]
  simp only [gnew]
  rw [if_pos gi, e1]
  simp only [Option.bind_some]
  rw [if_pos k1, k3]
  simp only [Option.bind_some]
  have ev : (if M1 r 0 = 2 then if gob L1 ca 13 = true then if M1 ca 0 = 3 then some (1 : Int32) else some 0 else none else some 0) = some (b01 cl) := by
    rw [k2, k7, if_pos k5]
    rw [hcl]
    rcases hop with h2' | h2'
    · rw [h2', if_pos (show znn 2 = 2 from rfl)]
      by_cases hh : nK (nL y) = 3
      · rw [hh, if_pos (show znn 3 = 3 from rfl)]; rfl
      · have := (nK_lt (nL y)).1
        rw [if_neg (show ¬ znn (nK (nL y)) = 3 by rw [show (3 : Int32) = znn 3 from rfl, zn_eq (by omega) (by decide)]; exact hh), decide_eq_false (by omega)]; rfl
    · rw [h2', if_neg (show ¬ znn 3 = 2 by decide)]; rfl
  rw [ev]
  simp only [Option.bind_some]
  rw [if_pos k5, e2]
  simp only [Option.bind_some]
  rw [if_pos b2, e3]
  simp only [Option.bind_some]
  rw [if_pos m1]
  have eo : (if M3 r 0 = 2 then some 2000011 else some 2000012 : Option Nat) = some (if nK y = 2 then 2000011 else 2000012) := by
    rw [m2]
    rcases hop with h2' | h2' <;> rw [h2'] <;> rfl
  rw [eo]
  simp only [Option.bind_some]
  rw [if_pos b3, e4]
  simp only [Option.bind_some]
  rw [if_pos n1, n4]
  simp only [Option.bind_some]
  rw [if_pos n6]
  have er : (if (1 : Int32) < M4 cb 0 then some (1 : Int32) else some 0) = some (b01 cr) := by
    have := (nK_lt (nR y)).1
    rw [n8]
    rw [hcr]
    by_cases hh : 1 < nK (nR y)
    · rw [if_pos (by rw [zl1, zn_lt (by decide) (by omega)]; exact hh), decide_eq_true hh]; rfl
    · rw [if_neg (by rw [zl1, zn_lt (by decide) (by omega)]; exact hh), decide_eq_false hh]; rfl
  rw [er]
  simp only [Option.bind_some]
  rw [if_pos n6, e5]
  simp only [Option.bind_some]
  rw [if_pos b5, e6]
  simp only [Option.bind_some]
  rw [if_pos b6, e7]
  rfl
theorem text_close {r : Nat} {M7 : ZI} {R7 : ZF} {L7 : ZY} {tx : List Nat} (hs : strIs M7 R7 L7 r (r + 1) (tx.map znn)) (hr : r < 600000) (ha : ascN tx) (hl : tx.length ≤ 126) (hL : L7.length ≤ 600000) (hL2 : 148 ≤ L7.length) : ∃ a N5 S5 K5, (if gfr L7 = true then gnew M7 R7 L7 14 4 fun (r54 : Nat) (M55 : ZI) (R56 : ZF) (L57 : ZY) => if gin r54 = true then (g117_init r54 M55 R56 L57).bind fun (M59, R60, L61) => if gob L61 r54 11 = true then (g128_append r54 2000013 M59 R60 L61).bind fun (r63, M64, R65, L66) => if gob L66 r63 11 = true then (g128_append r63 r M64 R65 L66).bind fun (r68, M69, R70, L71) => if gob L71 r68 11 = true then (g128_append r68 2000014 M69 R70 L71).bind fun (r73, M74, R75, L76) => if gob L76 r73 11 = true then (g133_toString r73 M74 R75 L76).bind fun (r78, M79, R80, L81) => some (r78, M79, R80, L81) else none else none else none else none else none else none) = some (a, N5, S5, K5) ∧ strIs N5 S5 K5 a (a + 1) ((parTx true tx).map znn) ∧ L7.length ≤ a ∧ hFr (fun _ => False) M7 R7 L7 N5 S5 K5 ∧ ∃ X, K5 = L7 ++ X ∧ X.length ≤ 7 ∧ (X.map Prod.snd).sum ≤ 1000 := by
  obtain ⟨N1, S1, i1, j1⟩ := sbo_new (M := M7) (R := R7) (L := L7) (by omega) (by omega)
  obtain ⟨N2, S2, K2, w2, i2, j2, -⟩ := sbo_str 130 j1 (str_c (M := N1) (R := S1) (L := L7 ++ [(14, 4)] ++ [(50, 16)]) 13 [40] (by decide) rfl) (by omega) (by simp) (by decide) (by omega)
  have s7' : strIs N2 S2 K2 r (r + 1) (tx.map znn) := strIs_fr hs j2.2.2.2.1 (fun _ hh => hh) (fun _ hh => hh)
  have hL67 : r + 1 < L7.length := by
    have q1 := hs.2.2.2.1
    unfold gbk at q1
    rw [if_pos (show r + 1 < 1000000 by omega)] at q1
    obtain ⟨-, hh⟩ := gak_sp q1
    exact lay_le hh
  have hw2 : L7.length ≤ w2 := j2.2.2.1
  obtain ⟨N3, S3, K3, w3, i3, j3, -⟩ := sbo_str 130 j2 s7' (by omega) (by simp; omega) (by decide) (by omega)
  have hv3 := sbo_v j3 (by omega)
  obtain ⟨N4, S4, K4, w4, i4, j4, -⟩ := sbo_str 130 j3 (str_c (M := N3) (R := S3) (L := K3) 14 [41] (by decide) rfl) (by omega) (by simp; omega) (by decide) (by omega)
  have hT3 : [] ++ [40] ++ tx ++ [41] = parTx true tx := by
    unfold parTx
    rw [if_pos rfl]
    simp
  rw [hT3] at j4
  have lp := par_len true tx
  obtain ⟨N5, S5, K5, i5, s8, l8, f8, f8', X, x1, x2, x3⟩ := sbo_fin j4 (par_asc ha) (by omega) (by omega)
  refine ⟨K4.length, N5, S5, K5, ?_, s8, l8, f8, X, x1, by omega, by omega⟩
  rw [if_pos (gfr_of (by omega))]
  simp only [gnew]
  rw [if_pos (show gin L7.length = true from Nat.blt_eq.mpr (by omega)), i1]
  simp only [Option.bind_some]
  rw [if_pos (sbo_gob j1 (by omega)), i2]
  simp only [Option.bind_some]
  rw [if_pos (sbo_gob j2 (by omega)), i3]
  simp only [Option.bind_some]
  rw [if_pos (sbo_gob j3 (by omega)), i4]
  simp only [Option.bind_some]
  rw [if_pos (sbo_gob j4 (by omega)), i5]
  rfl
theorem rule_text {lo n : Nat} (h0 : 0 < n) (hn : n ≤ 10) : ∀ f (y : Int32 × Nat) r F (c : Bool) (M : ZI) (R : ZF) (L : ZY), y.2 + f = 3 → f < F → rIs lo n f y M R L r → L.length + 3 * tN f + 100 ≤ 600000 → 148 ≤ L.length → ∃ a M' R' L', g149_text F r (b01 c) M R L = some (a, M', R', L') ∧ strIs M' R' L' a (a + 1) ((parTx (c && decide (1 < nK y)) (rTx n f y)).map znn) ∧ L.length ≤ a ∧ hFr (fun _ => False) M R L M' R' L' ∧ ∃ X, L' = L ++ X ∧ X.length ≤ tN f ∧ (X.map Prod.snd).sum ≤ tS f := by
  intro f
  induction f with
  | zero =>
    intro y r F c M R L hy hF h hL hL2
    obtain ⟨F, rfl⟩ : ∃ k, F = k + 1 := ⟨F - 1, by omega⟩
    exact text_leaf h0 hn ((nK_lt y).2 (by omega)) h.1 h.2.2.1 h.2.2.2 (by omega) hL2
  | succ f ih =>
    intro y r F c M R L hy hF h hL hL2
    obtain ⟨F, rfl⟩ : ∃ k, F = k + 1 := ⟨F - 1, by omega⟩
    obtain ⟨t1, t2, t3, t4, t5, t6⟩ := tN_le (f + 1) (by omega)
    obtain ⟨t7, t8, t9, t10, t11, t12⟩ := tN_le f (by omega)
    have hy1 : y.2 + 1 + f = 3 := by omega
    by_cases hk : nK y < 2
    · obtain ⟨a, M', R', L', e1, e2, e3, e4, X, e5, e6, e7⟩ := text_leaf (f := f + 1) (F := F) (c := c) (R := R) h0 hn hk h.1 h.2.2.1 (h.2.2.2.1 hk) (by omega) hL2
      exact ⟨a, M', R', L', e1, e2, e3, e4, X, e5, by omega, by omega⟩
    · have hr := h
      obtain ⟨h1, h2, h3, -, h5⟩ := h
      obtain ⟨ca, cb, g1, g2, g3, g4⟩ := h5 (by omega)
      have hk4 := (nK_lt y).1
      have rl := lay_le h1
      have hlen : rLn (f + 1) = 2 * rLn f + 9 := rfl
      have hTN : tN (f + 1) = 2 * tN f + 16 := rfl
      have hTS : tS (f + 1) = 2 * tS f + 2600 := rfl
      have gf : gfr L = true := gfr_of (by omega)
      have gi : gin L.length = true := Nat.blt_eq.mpr (by omega)
      have tr : ∀ {M' : ZI} {R' : ZF} {L' : ZY} {s v N S : Nat} {tx : List Nat}, sbOn M R L M' R' L' s v tx N S → N ≤ 1000 → gob L' r 13 = true ∧ M' r 0 = znn (nK y) ∧ R' r 2 = some ca ∧ R' r 3 = some cb ∧ gob L' ca 13 = true ∧ gob L' cb 13 = true ∧ M' ca 0 = znn (nK (nL y)) ∧ M' cb 0 = znn (nK (nR y)) ∧ rIs lo n f (nL y) M' R' L' ca ∧ rIs lo n f (nR y) M' R' L' cb := fun {M' R' L' s v N S tx} hb hN => by
        have hl := (sbo_len hb).1
        have hfr := hb.2.2.2.1
        have ra := rIs_F g3 hfr
        have rb := rIs_F g4 hfr
        obtain ⟨q1, q2⟩ := hfr.2 r rl (fun hh => hh)
        exact ⟨gob_of (hFr_lay hfr h1) (by omega), by rw [q1]; exact h3, by rw [q2]; exact g1, by rw [q2]; exact g2, gob_of (rIs_obj ra).1 (lay_lt (rIs_obj ra).1 (by omega)), gob_of (rIs_obj rb).1 (lay_lt (rIs_obj rb).1 (by omega)), (rIs_obj ra).2.2, (rIs_obj rb).2.2, ra, rb⟩
      have hop : nK y = 2 ∨ nK y = 3 := by omega
      let cl : Bool := decide (nK y = 2 ∧ nK (nL y) = 3)
      let cr : Bool := decide (1 < nK (nR y))
      let op : List Nat := if nK y = 2 then [32, 97, 110, 100, 32] else [32, 111, 114, 32]
      have hopl : op.length ≤ 5 := by dsimp only [op]; split <;> simp
      have hopa : ascN op := by dsimp only [op]; split <;> exact asc_lit rfl
      obtain ⟨aL, lL⟩ := rTx_ok h0 hn f (nL y)
      obtain ⟨aR, lR⟩ := rTx_ok h0 hn f (nR y)
      have ecl : (cl && decide (1 < nK (nL y))) = cl := by
        dsimp only [cl]
        by_cases hh : nK y = 2 ∧ nK (nL y) = 3
        · rw [decide_eq_true hh, decide_eq_true (by omega)]; rfl
        · rw [decide_eq_false hh]; rfl
      have ecr : (cr && decide (1 < nK (nR y))) = cr := by
        dsimp only [cr]
        cases decide (1 < nK (nR y)) <;> rfl
      have pl := par_len cl (rTx n f (nL y))
      have pr := par_len cr (rTx n f (nR y))
      have hT : rTx n (f + 1) y = parTx cl (rTx n f (nL y)) ++ (op ++ parTx cr (rTx n f (nR y))) := by
        rw [rTx, if_neg (by omega), if_neg (by omega)]
      -- the builder
      obtain ⟨M1, R1, e1, b1⟩ := sbo_new (M := M) (R := R) (L := L) (by omega) hL2
      have q1 := sbo_len b1
      obtain ⟨a1, M2, R2, L2, e2, s2, l2, f2, x2⟩ := ih (nL y) ca F cl M1 R1 _ hy1 (by omega) (tr b1 (by omega)).2.2.2.2.2.2.2.2.1 (by omega) (by omega)
      rw [ecl] at s2
      have b2 := sbo_fr b1 f2 x2
      obtain ⟨M3, R3, L3, v3, e3, b3, -⟩ := sbo_str 130 b2 s2 (by have := (sbo_v b1 (by omega)).2.1; omega) (by simp; omega) (by decide) (by omega)
      obtain ⟨M4, R4, L4, v4, e4, b4, -⟩ : ∃ M' R' L' v', g128_append L.length (if nK y = 2 then 2000011 else 2000012) M3 R3 L3 = some (L.length, M', R', L') ∧ sbOn M R L M' R' L' L.length v' ([] ++ parTx cl (rTx n f (nL y)) ++ op) (2 + tN f + 1 + 1) (20 + tS f + 2 * 130 + 2 * 130) ∧ hFr (fun c => c = L.length ∨ c = v3) M3 R3 L3 M' R' L' := by
        have hv := sbo_v b3 (by omega)
        have hlop : ([] ++ parTx cl (rTx n f (nL y))).length + op.length ≤ 130 := by rw [List.nil_append]; omega
        dsimp only [op] at hlop ⊢
        by_cases h2' : nK y = 2
        · rw [if_pos h2'] at hlop
          rw [if_pos h2', if_pos h2']
          exact sbo_str 130 b3 (str_c 11 [32, 97, 110, 100, 32] (by decide) rfl) (by omega) hlop (by decide) (by omega)
        · rw [if_neg h2'] at hlop
          rw [if_neg h2', if_neg h2']
          exact sbo_str 130 b3 (str_c 12 [32, 111, 114, 32] (by decide) rfl) (by omega) hlop (by decide) (by omega)
      have q4 := sbo_len b4
      obtain ⟨a5, M5, R5, L5, e5, s5, l5, f5, x5⟩ := ih (nR y) cb F cr M4 R4 L4 hy1 (by omega) (tr b4 (by omega)).2.2.2.2.2.2.2.2.2 (by omega) (by omega)
      rw [ecr] at s5
      have b5 := sbo_fr b4 f5 x5
      obtain ⟨M6, R6, L6, v6, e6, b6, -⟩ := sbo_str 130 b5 s5 (by have := (sbo_v b4 (by omega)).2.1; omega) (by simp; omega) (by decide) (by omega)
      have hT2 : [] ++ parTx cl (rTx n f (nL y)) ++ op ++ parTx cr (rTx n f (nR y)) = rTx n (f + 1) y := by rw [hT, List.nil_append, List.append_assoc]
      rw [hT2] at b6
      obtain ⟨aT, lT⟩ := rTx_ok h0 hn (f + 1) y
      obtain ⟨M7, R7, L7, e7, s7, l7, f7, f7', x7⟩ := sbo_fin b6 aT (by omega) (by omega)
      have hhead := text_head (c := c) (F := F) (cl := cl) (cr := cr) hop rfl rfl gf gi (gob_of h1 (by omega)) h3 e1 (tr b1 (by omega)).1 (tr b1 (by omega)).2.1 (tr b1 (by omega)).2.2.1 (tr b1 (by omega)).2.2.2.2.1 (tr b1 (by omega)).2.2.2.2.2.2.1 e2 (sbo_gob b2 (by omega)) e3 (sbo_gob b3 (by omega)) (tr b3 (by omega)).1 (tr b3 (by omega)).2.1 e4 (tr b4 (by omega)).1 (tr b4 (by omega)).2.2.2.1 (tr b4 (by omega)).2.2.2.2.2.1 (tr b4 (by omega)).2.2.2.2.2.2.2.1 e5 (sbo_gob b5 (by omega)) e6 (sbo_gob b6 (by omega)) e7
      have q6 := (sbo_len b6).1
      obtain ⟨X7, x71, x72, x73⟩ := id x7
      cases c with
      | false =>
        refine ⟨L6.length, M7, R7, L7, by rw [hhead]; rfl, s7, l7, f7, X7, x71, by omega, by omega⟩
      | true =>
        obtain ⟨a, N5, S5, K5, i5, s8, l8, f8, x8⟩ := text_close s7 (by omega) aT (by omega) (by rw [x71]; simp; omega) (by rw [x71]; simp; omega)
        have hc : (true && decide (1 < nK y)) = true := by simp; omega
        obtain ⟨X, x1, x2, x3⟩ := room_add x7 x8
        have l67 : L6.length ≤ L7.length := by
          obtain ⟨Y, hY⟩ := f7'.1
          rw [hY]; simp
        refine ⟨a, N5, S5, K5, ?_, by rw [hc]; exact s8, by omega, hFr_trans f7 f8, X, x1, by omega, by omega⟩
        rw [hhead, if_neg (by decide)]
        exact i5
