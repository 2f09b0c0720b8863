-- ===== twenty rounds =====
theorem div12 {r : Nat} (h : r < 20) : znn r / (12 : Int32) = znn (r / 12) := zn_divI (b := 12) (by omega) (by decide) (by decide)
theorem round_all {sc : ZS} {k50 : Nat → ZI → ZF → ZY → Option (Int32 × ZH)} {M B : ZI} {R : ZF} {L : ZY} {r14 m n k Y r fu : Nat} {T Bb : Nat → Nat} (hsc : sc.1 ≤ 1000) (hr : r < 20) (h : zWS M R L B r14 T Bb m n k Y) (hL : L.length ≤ 470000) (hY : Y ≤ 850) : ∃ M' R' L' B' T' Bb' m' k', g152_l41 sc r14 k50 (fu + 1) (T m) (znn m) (znn r) M R L = g152_l41 sc r14 k50 fu (T' m') (znn m') (znn (r + 1)) M' R' L' ∧ zWS M' R' L' B' r14 T' Bb' m' n k' (Y + 15) ∧ ∃ X, L' = L ++ X ∧ X.length ≤ 750 ∧ (X.map Prod.snd).sum ≤ 41000 := by
  obtain ⟨M1, R1, e1, h1, hcp⟩ := round_copy h (by omega)
  have hn := h.2.1.2.1
  have a5 := h.2.1.2.2.2.2.1
  have hc := LWx_cur h.2.1
  have go : gob L (T m) 10 = true := gob_of hc.1.1 (by have := lay_le hc.1.1; omega)
  have f7 : M (T m) 7 = znn n := hc.2.1.2.2.2.2.2.2.2.1.trans a5
  obtain ⟨v51, ec⟩ := cell_ok (k := 9 + r % 12) hsc (by omega)
  have ec' : g114_cell sc ((9 : Int32) + zrem (znn r) 12) = some v51 := by
    rw [show zrem (znn r) 12 = znn (r % 12) from zrem_n (b := 12) (by omega) (by decide) (by decide), show (9 : Int32) = znn 9 from rfl, zn_add]
    exact ec
  generalize hx : v51 * (znn r / 12 + 1) + 151 * znn r = x
  generalize hkd : bw x 12 = kd
  have hkd12 : kd < 12 := by rw [← hkd]; exact bw_lt _ (by decide)
  have eb : g115_between x 0 11 = some (znn kd) := by rw [← hkd]; exact btw0 (hi := 11) _ (by decide)
  generalize hav : bw (zshr x 3) (n + 1) = a
  generalize hbv : bw (zshr x 5) (n + 1) = b
  have ha : a ≤ n := by have := bw_lt (zshr x 3) (show 0 < n + 1 by omega); omega
  have hb : b ≤ n := by have := bw_lt (zshr x 5) (show 0 < n + 1 by omega); omega
  have eba : g115_between (zshr x 3) 0 (znn n) = some (znn a) := by rw [← hav]; exact btw0 (hi := n) _ (by omega)
  have ebb : g115_between (zshr x 5) 0 (znn n) = some (znn b) := by rw [← hbv]; exact btw0 (hi := n) _ (by omega)
  have hl2 : (L ++ cpL n).length ≤ 480000 := by rw [List.length_append, cpL_len]; omega
  have fin : ∀ f : ZS → (Nat → ZI → ZF → ZY → Option (Int32 × ZH)) → Nat → Int32 → Option (Int32 × ZH), zRE r14 n Y M1 R1 (L ++ cpL n) f → g152_l41 sc r14 k50 (fu + 1) (T m) (znn m) (znn r) M R L = f sc k50 fu (znn r) → ∃ M' R' L' B' T' Bb' m' k', g152_l41 sc r14 k50 (fu + 1) (T m) (znn m) (znn r) M R L = g152_l41 sc r14 k50 fu (T' m') (znn m') (znn (r + 1)) M' R' L' ∧ zWS M' R' L' B' r14 T' Bb' m' n k' (Y + 15) ∧ ∃ X, L' = L ++ X ∧ X.length ≤ 750 ∧ (X.map Prod.snd).sum ≤ 41000 := fun f hf he => by
    obtain ⟨M', R', L', B', T', Bb', m', k', g1, g2, X, g3, g4, g5⟩ := hf
    refine ⟨M', R', L', B', T', Bb', m', k', ?_, g2, cpL n ++ X, by rw [g3, List.append_assoc], by rw [List.length_append, cpL_len]; omega, by rw [List.map_append, List.sum_append, cpL_sum]; omega⟩
    rw [he, g1 sc k50 fu (znn r), zadd1]
  have hcut : g152_l41 sc r14 k50 (fu + 1) (T m) (znn m) (znn r) M R L = (if znn kd < (5 : Int32) then g152_ye sc r14 k50 fu (znn r) x (znn a) (znn b) L.length (T m) (znn m) M1 R1 (L ++ cpL n) else (if znn kd = (5 : Int32) then g152_ti sc r14 k50 fu (znn r) x (znn a) (znn b) L.length (T m) (znn m) M1 R1 (L ++ cpL n) else (if znn kd = (6 : Int32) then g152_si sc r14 k50 fu (znn r) x (znn a) (znn b) L.length (T m) (znn m) M1 R1 (L ++ cpL n) else (if znn kd = (7 : Int32) then g152_se sc r14 k50 fu (znn r) x (znn a) (znn b) L.length (T m) (znn m) M1 R1 (L ++ cpL n) else (if znn kd = (8 : Int32) then g152_te sc r14 k50 fu (znn r) x (znn a) (znn b) L.length (T m) (znn m) M1 R1 (L ++ cpL n) else (if znn kd = (9 : Int32) then g152_co sc r14 k50 fu (znn r) x (znn a) (znn b) L.length (T m) (znn m) M1 R1 (L ++ cpL n) else g152_un sc r14 k50 fu (znn r) x (znn a) (znn b) L.length (T m) (znn m) M1 R1 (L ++ cpL n))))))) := by
    rw [g152_cut, if_pos (show znn r < 20 by rw [zl20, zn_lt (by omega) (by decide)]; exact hr), ec', Option.bind_some, zlet_e, hx, eb, Option.bind_some, if_pos go, f7, eba, Option.bind_some, ebb, Option.bind_some, e1, Option.bind_some]
  have hk : ∀ c : Nat, c < 100 → (znn kd = znn c ↔ kd = c) := fun c hc => zn_eq (by omega) (by omega)
  have hk5 : (znn kd < (5 : Int32) ↔ kd < 5) := by rw [show (5 : Int32) = znn 5 from rfl]; exact zn_lt (by omega) (by decide)
  by_cases q0 : kd < 5
  · exact fin _ (round_ye (v55 := znn a) (v56 := znn b) (x := x) (X := L.length) h1 hl2 hY) (by rw [hcut, if_pos (hk5.mpr q0)])
  rw [if_neg (fun hh => q0 (hk5.mp hh))] at hcut
  by_cases q1 : kd = 5
  · exact fin _ (round_ti (x := x) h1 hcp hl2 ha hb) (by rw [hcut, if_pos (show znn kd = 5 from (hk 5 (by decide)).mpr q1)])
  rw [if_neg (show ¬ znn kd = 5 from fun hh => q1 ((hk 5 (by decide)).mp hh))] at hcut
  by_cases q2 : kd = 6
  · exact fin _ (round_si (x := x) (v55 := znn a) (v56 := znn b) h1 hcp hl2) (by rw [hcut, if_pos (show znn kd = 6 from (hk 6 (by decide)).mpr q2)])
  rw [if_neg (show ¬ znn kd = 6 from fun hh => q2 ((hk 6 (by decide)).mp hh))] at hcut
  by_cases q3 : kd = 7
  · exact fin _ (round_se (x := x) (v56 := znn b) (X := L.length) h1 hl2 ha) (by rw [hcut, if_pos (show znn kd = 7 from (hk 7 (by decide)).mpr q3)])
  rw [if_neg (show ¬ znn kd = 7 from fun hh => q3 ((hk 7 (by decide)).mp hh))] at hcut
  by_cases q4 : kd = 8
  · exact fin _ (round_te (x := x) (v55 := znn a) (v56 := znn b) (X := L.length) h1 hl2) (by rw [hcut, if_pos (show znn kd = 8 from (hk 8 (by decide)).mpr q4)])
  rw [if_neg (show ¬ znn kd = 8 from fun hh => q4 ((hk 8 (by decide)).mp hh))] at hcut
  by_cases q5 : kd = 9
  · exact fin _ (round_co (x := x) (v55 := znn a) (v56 := znn b) (X := L.length) h1 hl2) (by rw [hcut, if_pos (show znn kd = 9 from (hk 9 (by decide)).mpr q5)])
  rw [if_neg (show ¬ znn kd = 9 from fun hh => q5 ((hk 9 (by decide)).mp hh))] at hcut
  exact fin _ (round_un (x := x) (v55 := znn a) (v56 := znn b) (X := L.length) h1 hl2) hcut
theorem rounds {sc : ZS} {k50 : Nat → ZI → ZF → ZY → Option (Int32 × ZH)} {r14 n : Nat} (hsc : sc.1 ≤ 1000) : ∀ q r fuel (M B : ZI) (R : ZF) (L : ZY) (T Bb : Nat → Nat) (m k Y : Nat), r + q = 20 → q < fuel → zWS M R L B r14 T Bb m n k Y → L.length + 750 * q ≤ 470000 → Y + 15 * q ≤ 850 → ∃ M' R' L' B' T' Bb' m' k' Y', g152_l41 sc r14 k50 fuel (T m) (znn m) (znn r) M R L = k50 (T' m') M' R' L' ∧ zWS M' R' L' B' r14 T' Bb' m' n k' Y' ∧ ∃ X, L' = L ++ X ∧ X.length ≤ 750 * q ∧ (X.map Prod.snd).sum ≤ 41000 * q := by
  intro q
  induction q with
  | zero =>
    intro r fuel M B R L T Bb m k Y hr hf h hL hY
    obtain ⟨fu, rfl⟩ : ∃ k, fuel = k + 1 := ⟨fuel - 1, by omega⟩
    have : r = 20 := by omega
    subst this
    refine ⟨M, R, L, B, T, Bb, m, k, Y, ?_, h, [], by simp, by simp, by simp⟩
    rw [g152_cut, if_neg (by decide)]
  | succ q ih =>
    intro r fuel M B R L T Bb m k Y hr hf h hL hY
    obtain ⟨fu, rfl⟩ : ∃ k, fuel = k + 1 := ⟨fuel - 1, by omega⟩
    obtain ⟨M1, R1, L1, B1, T1, Bb1, m1, k1, e1, e2, x1⟩ := round_all (sc := sc) (k50 := k50) (fu := fu) hsc (show r < 20 by omega) h (by omega) (by omega)
    obtain ⟨X1, x11, x12, x13⟩ := id x1
    obtain ⟨M', R', L', B', T', Bb', m', k', Y', g1, g2, x2⟩ := ih (r + 1) fu M1 B1 R1 L1 T1 Bb1 m1 k1 (Y + 15) (by omega) (by omega) e2 (by rw [x11]; simp; omega) (by omega)
    refine ⟨M', R', L', B', T', Bb', m', k', Y', by rw [e1]; exact g1, g2, ?_⟩
    obtain ⟨X, z1, z2, z3⟩ := room_add x1 x2
    exact ⟨X, z1, by omega, by omega⟩
