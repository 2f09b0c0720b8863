-- ===== some YEARS of the law's loop, and the class's =====
theorem years_loop {r14 N n k : Nat} (hN : N ≤ 40) : ∀ q i fuel (giv : Int32) (M A Bg : ZI) (R : ZF) (L : ZY) (T Bb : Nat → Nat) (m Y : Nat), i + q = N → q < fuel → Inv2 A Bg → LWx M R L (zs Bg 148 30 1) T Bb m n k Y → SH R L r14 T m → L.length + 25 * q ≤ 500000 → Y + q ≤ 900 →
    ∃ giv' M' R' L' B' T' Bb' m', g152_l162 r14 (T m) (znn N) fuel (znn m) giv (znn i) M R L = some (znn m', giv', M', R', L') ∧ (∀ f2, q < f2 → f203_l35 (znn N) f2 giv (znn i) (zs Bg 148 30 1) = some (giv', B')) ∧ LWx M' R' L' B' T' Bb' m' n k (Y + q) ∧ SH R' L' r14 T' m' ∧ T' m' = T m ∧ (∀ c, c < 148 → M' c = M c) ∧ ∃ X, L' = L ++ X ∧ X.length ≤ 25 * q ∧ (X.map Prod.snd).sum ≤ 300 * q := by
  intro q
  induction q with
  | zero =>
    intro i fuel giv M A Bg R L T Bb m Y hi hf hI h hs hL hY
    obtain ⟨fu, rfl⟩ : ∃ k, fuel = k + 1 := ⟨fuel - 1, by omega⟩
    have : i = N := by omega
    subst this
    refine ⟨giv, M, R, L, zs Bg 148 30 1, T, Bb, m, ?_, fun f2 hf2 => ?_, h, hs, rfl, fun _ _ => rfl, [], by simp, by simp, by simp⟩
    · rw [g152_l162, if_neg (by rw [zn_lt (by omega) (by omega)]; omega)]
    · obtain ⟨f2, rfl⟩ : ∃ k, f2 = k + 1 := ⟨f2 - 1, by omega⟩
      rw [f203_l35, if_neg (by rw [zn_lt (by omega) (by omega)]; omega)]
  | succ q ih =>
    intro i fuel giv M A Bg R L T Bb m Y hi hf hI h hs hL hY
    obtain ⟨fu, rfl⟩ : ∃ k, fuel = k + 1 := ⟨fuel - 1, by omega⟩
    obtain ⟨v, M1, R1, L1, A1, Bk, B3, T1, Bb1, m1, s1, s2, s3, s4, s5, s6, s7, s8, s9, s10, x1⟩ := year_step hI h hs (by omega) (by omega)
    have e3 : zs B3 148 30 1 = B3 := zs_same s6
    obtain ⟨X1, x11, x12, x13⟩ := id x1
    obtain ⟨giv', M', R', L', B', T', Bb', m', g1, g2, g3, g4, g5, g6, x2⟩ := ih (i + 1) fu (if v < 0 then giv else giv + 1) M1 A1 B3 R1 L1 T1 Bb1 m1 (Y + 1) (by omega) (by omega) s5 (by rw [e3]; exact s7) s8 (by rw [x11]; simp; omega) (by omega)
    rw [s9] at g1
    refine ⟨giv', M', R', L', B', T', Bb', m', ?_, fun f2 hf2 => ?_, by rw [show Y + (q + 1) = Y + 1 + q by omega]; exact g3, g4, g5.trans s9, fun c hc => (g6 c hc).trans (s10 c hc), ?_⟩
    · rw [s1 fu giv i N (by omega) (by omega), ← g1]
      by_cases hv : v < 0
      · rw [if_pos hv, if_pos hv]
      · rw [if_neg hv, if_neg hv]
    · obtain ⟨f2, rfl⟩ : ∃ k, f2 = k + 1 := ⟨f2 - 1, by omega⟩
      have := g2 f2 (by omega)
      rw [e3] at this
      rw [f203_l35, if_pos ((zn_lt (by omega) (by omega)).mpr (by omega)), s2]
      simp only [Option.bind_some]
      rw [s3]
      simp only [Option.bind_some, zlet]
      rw [zadd1, ← this]
      by_cases hv : v < 0
      · rw [if_pos (s4.mp hv), if_pos hv, Int32.add_zero]
      · rw [if_neg (fun hh => hv (s4.mpr hh)), if_neg hv]
    · obtain ⟨X, z1, z2, z3⟩ := room_add x1 x2
      exact ⟨X, z1, by omega, by omega⟩
theorem years_op {M B : ZI} {R : ZF} {L : ZY} {r14 N n k m Y : Nat} {T Bb : Nat → Nat} (hI : Inv2 M B) (h : LWx M R L B T Bb m n k Y) (hs : SH R L r14 T m) (hN : 1 ≤ N) (hN2 : N ≤ 15) (hL : L.length ≤ 490000) (hY : Y ≤ 850) : ∃ giv M1 R' L' M' B' T' Bb' m', g152_l162 r14 (T m) (znn N) zfu (znn m) 0 0 M R L = some (znn m', giv, M1, R', L') ∧ f24_years (znn N) M1 = some (giv, M') ∧ Inv2 M' B' ∧ LWx M' R' L' B' T' Bb' m' n k (Y + N) ∧ SH R' L' r14 T' m' ∧ T' m' = T m ∧ ∃ X, L' = L ++ X ∧ X.length ≤ 400 ∧ (X.map Prod.snd).sum ≤ 5000 := by
  have hz : LWx M R L (zs B 148 30 1) T Bb m n k Y := LWx_B h (zs_df (by decide)) (zs_df (by decide)) (by rw [zs_sm, if_neg (by decide)]) (by rw [zs_sm, if_neg (by decide)])
  obtain ⟨giv, M1, R1, L1, B1, T1, Bb1, m1, g1, g2, g3, g4, g5, g6, X, x1, x2, x3⟩ := years_loop (r14 := r14) (N := N) (by omega) N 0 zfu 0 M M B R L T Bb m Y (by omega) (by rw [zfu_eq]; omega) hI hz hs (by omega) (by omega)
  obtain ⟨y, hy, ey⟩ := (h.2.2.2.2.2.2.2.2.1 m (Nat.le_refl _)).2.2.2
  rw [rwW_m] at ey
  have hr : f203_years (znn N) B = some (giv, B1) := by
    unfold f203_years
    rw [show f149_isIn (znn N) 1 40 = some 1 from in_yes (lo := 1) (hi := 40) hN (by omega) (by decide)]
    simp only [Option.bind_some, zlet]
    rw [if_neg (by decide), ey, zn_add, if_neg (show ¬ (999 : Int32) < znn (y + N) by rw [show (999 : Int32) = znn 999 from rfl, zn_lt (by decide) (by omega)]; omega), show f203_l35 (znn N) zfu 0 0 (zs B 148 30 1) = some (giv, B1) from g2 zfu (by rw [zfu_eq]; omega)]
    rfl
  have hI1 : Inv2 M1 B := Inv2_of hI g6 (fun _ _ => rfl)
  obtain ⟨M2, c1, c2, c3⟩ := call_r (sync_years (znn N)) hI1 hr
  exact ⟨giv, M1, R1, L1, M2, B1, T1, Bb1, m1, g1, c1, c2, LWx_gF g3 (gF_call (own := fun _ => False) c3) (fun _ _ _ hh => hh.elim), g4, g5, X, x1, by omega, by omega⟩
