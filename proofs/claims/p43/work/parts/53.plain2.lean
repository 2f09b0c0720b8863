theorem zlet_e {α β : Type} (a : α) (f : α → β) : zlet a f = f a := id rfl
-- ===== next, due, spread, way =====
theorem mom_p {A B : ZI} {n k c b p : Nat} (h0 : Inv5 A B n k c b) (hp : p < n) : A 3 p = B 149 (17 + p) ∧ A 4 p = B 149 (27 + p) ∧ A 5 p = B 149 (37 + p) ∧ A 6 p = B 149 (7 + p) ∧ A 37 p = B 149 (60 + p) ∧ A 38 p = B 149 (70 + p) ∧ A 39 p = B 149 (80 + p) := by
  obtain ⟨m1, m2, m3, m4⟩ := h0.2.2.1.2 p hp
  obtain ⟨f1, f2, f3⟩ := h0.1.1.2 p hp
  exact ⟨m1, m2, m3, m4, f1, f2, f3⟩
theorem val_p {A B : ZI} {n k c b p : Nat} (h0 : Inv5 A B n k c b) (hp : p < n) : (∃ a, a ≤ 99 ∧ B 149 (17 + p) = znn a) ∧ (∃ h, h ≤ 999 ∧ B 149 (27 + p) = znn h) ∧ (∃ s, s < 1024 ∧ B 149 (7 + p) = znn s ∧ s.testBit p = false) ∧ (∃ d, d ≤ 24 ∧ B 149 (60 + p) = znn d) ∧ ∃ d, d ≤ 999 ∧ B 149 (70 + p) = znn d := by
  obtain ⟨-, ⟨y, hy, -, hh⟩, -, -, hag⟩ := h0.2.2.2.1
  obtain ⟨h, hh1, hh2⟩ := hh p hp
  obtain ⟨ga, gt⟩ := hag p hp
  obtain ⟨q1, q2, -⟩ := h0.2.1.1.2.2.2.2.2.2.2 p hp
  exact ⟨ga, ⟨h, by omega, hh2⟩, gt, q1, q2⟩
theorem zx {d p : Nat} (hd : d ≤ 90) (hp : p < 10) : zin (znn d + znn p) 2064 = true := by rw [zn_add]; exact (zn_zin (by omega)).mpr (by omega)
theorem zy {d p : Nat} (hd : d ≤ 90) (hp : p < 10) : zi (znn d + znn p) = d + p := by rw [zn_add, zn_zi (by omega)]
theorem syncP_next : syncP f124_next f237_next := by
  rintro A B ⟨n, k, c, b, h0, -⟩
  have hn10 := h0.2.1.1.1
  have h48 := h0.2.1.1.2.1
  have h11 : A 1 11 = znn n := h0.1.1.1.1.trans h48
  obtain ⟨r, r', g1, g2, g3⟩ := zpair (fun f (a : Int32) c => f124_l4 A f a c) (fun f (a : Int32) c => f237_l4 B f a c) n (fun _ a d => a = d ∧ (a = -1 ∨ ∃ q, q < n ∧ a = znn q)) (fun a d => a = d) (fun f i a d hi had => by
    obtain ⟨rfl, ha⟩ := had
    left
    (try dsimp only)
    have hlt : znn i < znn n := (zn_lt (by omega) (by omega)).mpr hi
    have hz : zin (znn i) 10 = true := (zn_zin (by omega)).mpr (by omega)
    have zz : zi (znn i) = i := zn_zi (by omega)
    obtain ⟨m1, m2, m3, m4, m5, m6, m7⟩ := mom_p h0 hi
    obtain ⟨⟨ag, hag, eag⟩, ⟨hd, hhd, ehd⟩, -, ⟨nd, hnd, end_⟩, -⟩ := val_p h0 hi
    rw [f124_l4, f237_l4, h11, h48, if_pos hlt, if_pos hlt, if_pos hz, show zin (27 + znn i) 2064 = true from zx (d := 27) (by decide) (by omega), zz, show zi (27 + znn i) = 27 + i from zy (d := 27) (by decide) (by omega), m2, zadd1, if_pos (show true = true from rfl)]
    by_cases hh : B 149 (27 + i) = 0
    · rw [if_pos hh, if_pos hh]
      unfold f238_isNeedier
      rcases ha with rfl | ⟨q, hq, rfl⟩
      · rw [if_pos rfl, if_pos rfl]
        exact ⟨znn i, znn i, ⟨rfl, Or.inr ⟨i, hi, rfl⟩⟩, rfl, rfl⟩
      · have hne : ¬ znn q = -1 := zn_ne_neg (by omega)
        have hzq : zin (znn q) 10 = true := (zn_zin (by omega)).mpr (by omega)
        have zzq : zi (znn q) = q := zn_zi (by omega)
        obtain ⟨k1, k2, k3, k4, k5, k6, k7⟩ := mom_p h0 hq
        obtain ⟨⟨ag', hag', eag'⟩, -, -, ⟨nd', hnd', end'⟩, -⟩ := val_p h0 hq
        obtain ⟨z1, z2⟩ := zgt0 (a := nd) (b := nd') (by omega) (by omega)
        rw [if_neg hne, if_neg hne, show zin (60 + znn i) 2064 = true from zx (d := 60) (by decide) (by omega), show zin (60 + znn q) 2064 = true from zx (d := 60) (by decide) (by omega), show zi (60 + znn i) = 60 + i from zy (d := 60) (by decide) (by omega), show zi (60 + znn q) = 60 + q from zy (d := 60) (by decide) (by omega), show zin (17 + znn i) 2064 = true from zx (d := 17) (by decide) (by omega), show zin (17 + znn q) 2064 = true from zx (d := 17) (by decide) (by omega), show zi (17 + znn i) = 17 + i from zy (d := 17) (by decide) (by omega), show zi (17 + znn q) = 17 + q from zy (d := 17) (by decide) (by omega)]
        unfold f125_comesBefore
        rw [hz, hzq, zz, zzq, m5, k5, m1, k1, end_, end']
        simp only [↓reduceIte, zlet]
        by_cases c1 : nd = nd'
        · subst c1
          have hs : znn nd - znn nd = 0 := z2.mpr rfl
          simp only [↓reduceIte, hs, if_neg (show ¬ (0 : Int32) < 0 by decide)]
          by_cases c2 : B 149 (17 + q) < B 149 (17 + i)
          · simp only [if_pos c2, Option.bind_some, if_neg h10]
            exact ⟨znn i, znn i, ⟨rfl, Or.inr ⟨i, hi, rfl⟩⟩, rfl, rfl⟩
          · simp only [if_neg c2, Option.bind_some, ↓reduceIte]
            exact ⟨znn q, znn q, ⟨rfl, Or.inr ⟨q, hq, rfl⟩⟩, rfl, rfl⟩
        · have hne2 : ¬ znn nd = znn nd' := by rw [zn_eq (by omega) (by omega)]; exact c1
          have hs : ¬ znn nd - znn nd' = 0 := fun h => c1 (z2.mp h)
          simp only [if_neg hne2, if_neg hs]
          by_cases c2 : nd' < nd
          · simp only [if_pos ((zn_lt (show nd' < 2147483648 by omega) (show nd < 2147483648 by omega)).mpr c2), if_pos (z1.mpr c2), Option.bind_some, if_neg h10]
            exact ⟨znn i, znn i, ⟨rfl, Or.inr ⟨i, hi, rfl⟩⟩, rfl, rfl⟩
          · have l1 : ¬ znn nd' < znn nd := by rw [zn_lt (by omega) (by omega)]; exact c2
            have l2 : ¬ 0 < znn nd - znn nd' := fun h => c2 (z1.mp h)
            simp only [if_neg l1, if_neg l2, Option.bind_some, ↓reduceIte]
            exact ⟨znn q, znn q, ⟨rfl, Or.inr ⟨q, hq, rfl⟩⟩, rfl, rfl⟩
    · rw [if_neg hh, if_neg hh]
      exact ⟨a, a, ⟨rfl, ha⟩, rfl, rfl⟩) (fun f a d had => by
    obtain ⟨rfl, ha⟩ := had
    have hng : ¬ znn n < znn n := by rw [zn_lt (by omega) (by omega)]; omega
    refine ⟨a, a, rfl, ?_, ?_⟩
    · (try dsimp only)
      rw [f124_l4, h11, if_neg hng]
    · (try dsimp only)
      rw [f237_l4, h48, if_neg hng]) zfu 0 (-1) (-1) (by omega) (by rw [zfu_eq]; omega) ⟨rfl, Or.inl rfl⟩
  subst g3
  have g1 : f124_l4 A zfu (-1) 0 = some r := g1
  have g2 : f237_l4 B zfu (-1) 0 = some r := g2
  exact ⟨r, by rw [f124_next, g1]; rfl, by rw [f237_next, g2]; rfl⟩
theorem zlt_sub {a b : Nat} (ha : a ≤ 2000) (hb : b ≤ 2000) : znn a - znn b < 0 ↔ a < b := by
  obtain ⟨g1, g2⟩ := zgt0 ha hb
  obtain ⟨k1, k2⟩ := zgt0 hb ha
  constructor
  · intro h
    by_cases hc : a < b
    · exact hc
    · exfalso
      rw [zn_sub (by omega)] at h
      exact zn_nneg (by omega) h
  · intro h
    have h1 := k1.mpr h
    have h2 : ¬ 0 < znn a - znn b := fun hc => by have := g1.mp hc; omega
    have h3 : ¬ znn a - znn b = 0 := fun hc => by have := g2.mp hc; omega
    generalize znn a - znn b = x at *
    grind
theorem due_loop {A B : ZI} {n k c b y : Nat} (h0 : Inv5 A B n k c b) (hy : y ≤ 999) (ey : B 149 0 = znn y) (e5 : A 2 5 = znn y) : ∃ r1 r2 s2, f126_l18 A zfu 0 (-1) 0 = some (r1, r2) ∧ f239_l20 B zfu 0 100000 0 = some (r1, s2) ∧ ((r2 = -1 ∧ s2 = 100000) ∨ ∃ q, q ≤ 999 ∧ r2 = znn q ∧ s2 = znn q) := by
  have hn10 := h0.2.1.1.1
  have h48 := h0.2.1.1.2.1
  have h11 : A 1 11 = znn n := h0.1.1.1.1.trans h48
  generalize hfu : zfu = fu
  have hfun : n < fu := by rw [← hfu, zfu_eq]; omega
  have h10e : ∃ m : Int32, m = 100000 ∧ (∀ q, q ≤ 999 → zmin m (znn q) = znn q) := ⟨100000, rfl, fun q hq => by
    unfold zmin
    rw [if_pos (by rw [zl100000, zn_lt (by omega) (by omega)]; omega)]⟩
  obtain ⟨mm, hmm, hmz⟩ := h10e
  rw [← hmm]
  obtain ⟨⟨r1, r2⟩, ⟨s1, s2⟩, g1, g2, g3, g4⟩ := zpair (fun f (a : Int32 × Int32) c => f126_l18 A f a.1 a.2 c) (fun f (a : Int32 × Int32) c => f239_l20 B f a.1 a.2 c) n (fun _ a d => a.1 = d.1 ∧ ((a.2 = -1 ∧ d.2 = mm) ∨ ∃ q, q ≤ 999 ∧ a.2 = znn q ∧ d.2 = znn q)) (fun a d => a.1 = d.1 ∧ ((a.2 = -1 ∧ d.2 = mm) ∨ ∃ q, q ≤ 999 ∧ a.2 = znn q ∧ d.2 = znn q)) (fun f i a d hi had => by
    obtain ⟨a1, a2⟩ := a
    obtain ⟨d1, d2⟩ := d
    obtain ⟨rfl, hs⟩ := had
    simp only at hs
    left
    (try dsimp only)
    have hlt : znn i < znn n := (zn_lt (by omega) (by omega)).mpr hi
    have hz : zin (znn i) 10 = true := (zn_zin (by omega)).mpr (by omega)
    have zz : zi (znn i) = i := zn_zi (by omega)
    obtain ⟨m1, m2, m3, m4, m5, m6, m7⟩ := mom_p h0 hi
    obtain ⟨-, ⟨hd, hhd, ehd⟩, -, ⟨nd, hnd, end_⟩, ⟨be, hbe, ebe⟩⟩ := val_p h0 hi
    rw [f126_l18, f239_l20, h11, h48, if_pos hlt, if_pos hlt, show zin (27 + znn i) 2064 = true from zx (d := 27) (by decide) (by omega), show zi (27 + znn i) = 27 + i from zy (d := 27) (by decide) (by omega), show zin (60 + znn i) 2064 = true from zx (d := 60) (by decide) (by omega), show zi (60 + znn i) = 60 + i from zy (d := 60) (by decide) (by omega), show zin (70 + znn i) 2064 = true from zx (d := 70) (by decide) (by omega), show zi (70 + znn i) = 70 + i from zy (d := 70) (by decide) (by omega), zz, m2, m5, m6, ehd, ebe, e5, ey, hz, zadd1]
    simp only [↓reduceIte, zlet_e, les_eq, Option.bind_some]
    by_cases hh : hd = 0
    · subst hh
      rw [if_pos (show znn 0 = 0 from rfl), if_neg (show ¬ 0 < znn 0 by decide)]
      by_cases c1 : be < y
      · have l1 : znn be < znn y := (zn_lt (by omega) (by omega)).mpr c1
        have l2 : znn be - znn y < 0 := (zlt_sub (by omega) (by omega)).mpr c1
        rw [if_pos l2, if_pos l1]
        exact ⟨(a1 + B 149 (60 + i), a2), (a1 + B 149 (60 + i), d2), ⟨rfl, hs⟩, rfl, rfl⟩
      · have l1 : ¬ znn be < znn y := by rw [zn_lt (by omega) (by omega)]; exact c1
        have es : znn be - znn y = znn (be - y) := zn_sub (by omega)
        rw [es, if_neg l1, if_neg (zn_nneg (by omega))]
        rcases hs with ⟨rfl, rfl⟩ | ⟨q, hq, rfl, rfl⟩
        · rw [if_pos rfl]
          have hm := hmz (be - y) (by omega)
          rw [hm]
          exact ⟨(a1 + B 149 (60 + i), znn (be - y)), (a1 + B 149 (60 + i), znn (be - y)), ⟨rfl, Or.inr ⟨be - y, by omega, rfl, rfl⟩⟩, rfl, rfl⟩
        · have hne : ¬ znn q = -1 := zn_ne_neg (by omega)
          rw [if_neg hne]
          unfold zmin
          by_cases c2 : znn (be - y) < znn q
          · rw [if_pos c2, if_pos c2]
            exact ⟨(a1 + B 149 (60 + i), znn (be - y)), (a1 + B 149 (60 + i), znn (be - y)), ⟨rfl, Or.inr ⟨be - y, by omega, rfl, rfl⟩⟩, rfl, rfl⟩
          · rw [if_neg c2, if_neg c2]
            exact ⟨(a1 + B 149 (60 + i), znn q), (a1 + B 149 (60 + i), znn q), ⟨rfl, Or.inr ⟨q, hq, rfl, rfl⟩⟩, rfl, rfl⟩
    · rw [if_neg (show ¬ znn hd = 0 by rw [zl0, zn_eq (by omega) (by decide)]; exact hh), if_pos (zlt0 (by omega) (by omega))]
      exact ⟨(a1, a2), (a1, d2), ⟨rfl, hs⟩, rfl, rfl⟩) (fun f a d had => by
    have hng : ¬ znn n < znn n := by rw [zn_lt (by omega) (by omega)]; omega
    refine ⟨a, d, had, ?_, ?_⟩
    · (try dsimp only)
      rw [f126_l18, h11, if_neg hng]
    · (try dsimp only)
      rw [f239_l20, h48, if_neg hng]) fu 0 (0, -1) (0, mm) (by omega) (by omega) ⟨rfl, Or.inl ⟨rfl, rfl⟩⟩
  simp only at g3 g4
  subst g3
  exact ⟨r1, r2, s2, g1, g2, g4⟩
theorem syncP_due (x : Int32) : syncP (f126_due x) (f239_due x) := by
  rintro A B ⟨n, k, c, b, h0, -⟩
  have hn10 := h0.2.1.1.1
  have h48 := h0.2.1.1.2.1
  have h11 : A 1 11 = znn n := h0.1.1.1.1.trans h48
  obtain ⟨y, hy, ey, -⟩ := h0.2.2.2.1.2.1
  have e5 : A 2 5 = znn y := h0.2.2.1.1.2.1.trans ey
  rcases within_ex (x := x) (lo := 0) (hi := 1) (by decide) (by decide) with ⟨u, -, hu, rfl, e1, e2⟩ | ⟨e1, e2⟩
  case inr => exact ⟨-1, by unfold f126_due; rw [show f13_within x 0 1 = some 0 from e1]; rfl, by unfold f239_due; rw [show f149_isIn x 0 1 = some 0 from e2]; rfl⟩
  obtain ⟨r1, r2, s2, g1, g2, g4⟩ := due_loop h0 hy ey e5
  unfold f126_due f239_due
  rw [show f13_within (znn u) 0 1 = some 1 from e1, show f149_isIn (znn u) 0 1 = some 1 from e2, g1, g2]
  simp only [Option.bind_some, if_neg h10]
  have hu2 : u = 0 ∨ u = 1 := by omega
  rcases hu2 with rfl | rfl
  · simp only [if_pos (show znn 0 = 0 from rfl)]
    exact ⟨r1, rfl, rfl⟩
  · simp only [if_neg (show ¬ znn 1 = 0 by decide)]
    rcases g4 with ⟨rfl, rfl⟩ | ⟨q, hq, rfl, rfl⟩
    · exact ⟨-1, rfl, by rw [if_pos rfl]⟩
    · exact ⟨znn q, rfl, by rw [if_neg (show ¬ znn q = 100000 by rw [zl100000, zn_eq (by omega) (by omega)]; omega)]⟩
def hMn (w : Nat → Int32) : Nat → Nat × Nat
  | 0 => (100000, 0)
  | i + 1 => (min (hMn w i).1 (zi (w (27 + i))), max (hMn w i).2 (zi (w (27 + i))))
theorem hMn_le {w : Nat → Int32} {n : Nat} (h : ∀ p, p < n → zi (w (27 + p)) ≤ 999) : ∀ i, i ≤ n → (hMn w i).1 ≤ 100000 ∧ (hMn w i).2 ≤ 999
  | 0, _ => ⟨Nat.le_refl _, Nat.zero_le _⟩
  | i + 1, hi => by
    have := hMn_le h i (by omega)
    have := h i (by omega)
    simp only [hMn]
    omega
theorem zmin_zn {p q : Nat} (hp : p < 2147483648) (hq : q < 2147483648) : zmin (znn p) (znn q) = znn (min p q) := by
  unfold zmin
  by_cases hc : znn q < znn p
  · rw [if_pos hc]
    rw [zn_lt hq hp] at hc
    congr 1; omega
  · rw [if_neg hc]
    rw [zn_lt hq hp] at hc
    congr 1; omega
theorem zmax_zn {p q : Nat} (hp : p < 2147483648) (hq : q < 2147483648) : zmax (znn p) (znn q) = znn (max p q) := by
  unfold zmax
  by_cases hc : znn p < znn q
  · rw [if_pos hc]
    rw [zn_lt hp hq] at hc
    congr 1; omega
  · rw [if_neg hc]
    rw [zn_lt hp hq] at hc
    congr 1; omega
theorem syncP_spread (x : Int32) : syncP (f131_spread x) (f240_spread x) := by
  rintro A B ⟨n, k, c, b, h0, -⟩
  have hn10 := h0.2.1.1.1
  have h48 := h0.2.1.1.2.1
  have h11 : A 1 11 = znn n := h0.1.1.1.1.trans h48
  have hh : ∀ p, p < n → B 149 (27 + p) = znn (zi (B 149 (27 + p))) ∧ zi (B 149 (27 + p)) ≤ 999 := fun p hp => by
    obtain ⟨-, ⟨hd, hhd, ehd⟩, -⟩ := val_p h0 hp
    rw [ehd, zn_zi (by omega)]
    exact ⟨rfl, hhd⟩
  have hle := hMn_le (fun p hp => (hh p hp).2)
  -- the latest, and the reference's all in one
  obtain ⟨r, ⟨s1, s2, s3⟩, g1, g2, g3, g4, g5⟩ := zpair (fun f (a : Int32) c => f133_l4 A f a c) (fun f (d : Int32 × Int32 × Int32) c => f240_l23 B f d.1 d.2.1 d.2.2 c) n (fun i a d => a = d.2.2 ∧ (a = -1 ∨ ∃ q, q < n ∧ a = znn q) ∧ d.1 = znn (hMn (B 149) i).1 ∧ d.2.1 = znn (hMn (B 149) i).2) (fun a d => a = d.2.2 ∧ d.1 = znn (hMn (B 149) n).1 ∧ d.2.1 = znn (hMn (B 149) n).2) (fun f i a d hi had => by
    obtain ⟨d1, d2, d3⟩ := d
    obtain ⟨rfl, ha, rfl, rfl⟩ := had
    left
    (try dsimp only)
    have hlt : znn i < znn n := (zn_lt (by omega) (by omega)).mpr hi
    have hz : zin (znn i) 10 = true := (zn_zin (by omega)).mpr (by omega)
    have zz : zi (znn i) = i := zn_zi (by omega)
    obtain ⟨m1, m2, m3, m4, m5, m6, m7⟩ := mom_p h0 hi
    obtain ⟨eh, eh2⟩ := hh i hi
    have l1 := (hle i (by omega)).1
    have l2 := (hle i (by omega)).2
    rw [f133_l4, f240_l23, h11, h48, if_pos hlt, if_pos hlt, show zin (27 + znn i) 2064 = true from zx (d := 27) (by decide) (by omega), show zi (27 + znn i) = 27 + i from zy (d := 27) (by decide) (by omega), show zin (37 + znn i) 2064 = true from zx (d := 37) (by decide) (by omega), show zi (37 + znn i) = 37 + i from zy (d := 37) (by decide) (by omega), zz, m2, m3, hz, zadd1]
    simp only [↓reduceIte, les_eq, gre_eq, Option.bind_some]
    have e1 : zmin (znn (hMn (B 149) i).1) (B 149 (27 + i)) = znn (hMn (B 149) (i + 1)).1 := by rw [eh, zmin_zn (by omega) (by omega)]; simp only [hMn]
    have e2 : zmax (znn (hMn (B 149) i).2) (B 149 (27 + i)) = znn (hMn (B 149) (i + 1)).2 := by rw [eh, zmax_zn (by omega) (by omega)]; simp only [hMn]
    rw [e1, e2]
    by_cases c1 : 0 < B 149 (27 + i)
    · rw [if_pos c1, if_pos c1]
      rcases ha with rfl | ⟨q, hq, rfl⟩
      · rw [if_pos rfl, if_pos rfl]
        exact ⟨znn i, (_, _, znn i), ⟨rfl, Or.inr ⟨i, hi, rfl⟩, rfl, rfl⟩, rfl, rfl⟩
      · have hne : ¬ znn q = -1 := zn_ne_neg (by omega)
        have hzq : zin (znn q) 10 = true := (zn_zin (by omega)).mpr (by omega)
        have zzq : zi (znn q) = q := zn_zi (by omega)
        obtain ⟨k1, k2, k3, k4, k5, k6, k7⟩ := mom_p h0 hq
        rw [if_neg hne, if_neg hne, hzq, zzq, k3, show zin (37 + znn q) 2064 = true from zx (d := 37) (by decide) (by omega), show zi (37 + znn q) = 37 + q from zy (d := 37) (by decide) (by omega)]
        simp only [↓reduceIte]
        by_cases c2 : B 149 (37 + i) < B 149 (37 + q)
        · rw [if_pos c2, if_pos c2]
          exact ⟨znn i, (_, _, znn i), ⟨rfl, Or.inr ⟨i, hi, rfl⟩, rfl, rfl⟩, rfl, rfl⟩
        · rw [if_neg c2, if_neg c2]
          exact ⟨znn q, (_, _, znn q), ⟨rfl, Or.inr ⟨q, hq, rfl⟩, rfl, rfl⟩, rfl, rfl⟩
    · rw [if_neg c1, if_neg c1]
      exact ⟨a, (_, _, a), ⟨rfl, ha, rfl, rfl⟩, rfl, rfl⟩) (fun f a d had => by
    obtain ⟨h1, -, h2⟩ := had
    have hng : ¬ znn n < znn n := by rw [zn_lt (by omega) (by omega)]; omega
    refine ⟨a, d, ⟨h1, h2⟩, ?_, ?_⟩
    · (try dsimp only)
      rw [f133_l4, h11, if_neg hng]
    · (try dsimp only)
      rw [f240_l23, h48, if_neg hng]) zfu 0 (-1) (100000, 0, -1) (by omega) (by rw [zfu_eq]; omega) ⟨rfl, Or.inl rfl, rfl, rfl⟩
  simp only at g3 g4 g5
  subst g3
  have g1 : f133_l4 A zfu (-1) 0 = some r := g1
  have g2 : f240_l23 B zfu 100000 0 (-1) 0 = some (s1, s2, r) := g2
  -- the class's least and greatest
  have hcls : f132_spreadOfHad A = some (if n = 0 then 0 else s2 - s1) := by
    unfold f132_spreadOfHad
    by_cases hn0 : n = 0
    · subst hn0
      have : f132_l22 A zfu (A 4 0) (A 4 0) 1 = some (A 4 0, A 4 0) := by
        obtain ⟨m, hm⟩ : ∃ m, zfu = m + 1 := ⟨99999, rfl⟩
        rw [hm, f132_l22, h11, if_neg (by decide)]
      simp only [zlet]
      rw [this]
      simp only [Option.bind_some, ↓reduceIte]
      rw [Int32.sub_self]
    · obtain ⟨⟨t1, t2⟩, e1, e2⟩ := zloop (fun f (a : Int32 × Int32) c => f132_l22 A f a.1 a.2 c) n (fun i a => 1 ≤ i ∧ a = (znn (hMn (B 149) i).1, znn (hMn (B 149) i).2)) (fun a => a = (znn (hMn (B 149) n).1, znn (hMn (B 149) n).2)) (fun f i a hi ha => by
        obtain ⟨hi1, rfl⟩ := ha
        left
        refine ⟨_, ⟨by omega, rfl⟩, ?_⟩
        (try dsimp only)
        have hlt : znn i < znn n := (zn_lt (by omega) (by omega)).mpr hi
        have hz : zin (znn i) 10 = true := (zn_zin (by omega)).mpr (by omega)
        have zz : zi (znn i) = i := zn_zi (by omega)
        obtain ⟨m1, m2, m3, m4, m5, m6, m7⟩ := mom_p h0 hi
        obtain ⟨eh, eh2⟩ := hh i hi
        have l1 := (hle i (by omega)).1
        have l2 := (hle i (by omega)).2
        rw [f132_l22, h11, if_pos hlt, if_pos hz]
        simp only [zlet]
        rw [if_pos hz, zz, m2, zadd1, eh, zmin_zn (by omega) (by omega), zmax_zn (by omega) (by omega)]
        simp only [hMn]) (fun f a ha => by
        obtain ⟨hi1, rfl⟩ := ha
        refine ⟨_, rfl, ?_⟩
        (try dsimp only)
        rw [f132_l22, h11, if_neg (by rw [zn_lt (by omega) (by omega)]; omega)]) zfu 1 (A 4 0, A 4 0) (by omega) (by rw [zfu_eq]; omega) ⟨by omega, by
          obtain ⟨m1, m2, -⟩ := mom_p h0 (show 0 < n by omega)
          obtain ⟨eh, eh2⟩ := hh 0 (by omega)
          rw [m2]
          simp only [hMn]
          rw [show min 100000 (zi (B 149 (27 + 0))) = zi (B 149 (27 + 0)) by omega, show max 0 (zi (B 149 (27 + 0))) = zi (B 149 (27 + 0)) by omega, ← eh]⟩
      have e1 : f132_l22 A zfu (A 4 0) (A 4 0) 1 = some (t1, t2) := e1
      simp only [zlet]
      rw [e1]
      simp only [Option.bind_some]
      rw [if_neg hn0, g4, g5]
      have := congrArg Prod.fst e2
      have h2 := congrArg Prod.snd e2
      simp only at this h2
      rw [this, h2]
  unfold f131_spread f240_spread f133_latestGiven
  rw [g1, g2, hcls, h48]
  by_cases c0 : x = 0
  · subst c0
    rw [show f149_isIn 0 0 1 = some 1 from rfl]
    simp only [Option.bind_some, if_neg h10, if_neg (show ¬ (0 : Int32) = 1 by decide), ↓reduceIte]
    by_cases hn0 : n = 0
    · rw [if_pos hn0, if_pos (show znn n = 0 by rw [hn0]; rfl)]; exact ⟨_, rfl, rfl⟩
    · rw [if_neg hn0, if_neg (show ¬ znn n = 0 by rw [zl0, zn_eq (by omega) (by decide)]; exact hn0)]; exact ⟨_, rfl, rfl⟩
  · simp only [if_neg c0]
    by_cases c1 : x = 1
    · subst c1
      rw [show f149_isIn 1 0 1 = some 1 from rfl]
      simp only [Option.bind_some, if_neg h10, ↓reduceIte]
      exact ⟨r, rfl, rfl⟩
    · rcases within_ex (x := x) (lo := 0) (hi := 1) (by decide) (by decide) with ⟨u, -, hu, rfl, e1, e2⟩ | ⟨e1, e2⟩
      · have hu2 : u = 0 ∨ u = 1 := by omega
        rcases hu2 with rfl | rfl
        · exact absurd rfl c0
        · exact absurd rfl c1
      · rw [show f149_isIn x 0 1 = some 0 from e2]
        simp only [if_neg c1]
        exact ⟨-1, rfl, rfl⟩
theorem syncP_way (x y : Int32) : syncP (f134_way x y) (f262_way x y) := by
  rintro A B ⟨n, k, c, b, h0, -⟩
  have hn10 := h0.2.1.1.1
  have h48 := h0.2.1.1.2.1
  have h11 : A 1 11 = znn n := h0.1.1.1.1.trans h48
  unfold f134_way f262_way
  rcases has_eq h0 x with ⟨p, hp, rfl, e1, e2⟩ | ⟨e1, e2⟩
  case inr => rw [e1, e2]; exact ⟨-1, rfl, rfl⟩
  rcases has_eq h0 y with ⟨q, hq, rfl, e3, e4⟩ | ⟨e3, e4⟩
  case inr => rw [e1, e2, e3, e4]; exact ⟨-1, rfl, rfl⟩
  rw [e1, e2, e3, e4]
  simp only [Option.bind_some, if_neg h10, zlet]
  have pw : 2 ^ p < 1024 := Nat.lt_of_lt_of_le (Nat.pow_lt_pow_right (by decide) (show p < 10 by omega)) (Nat.le_refl _)
  rw [show zshl 1 (znn p) = znn (2 ^ p) by rw [zl1]; exact zn_shl (by omega)]
  -- one step on
  have inner : ∀ s, s < 1024 → ∃ t, t < 1024 ∧ f135_tiedTo (znn s) A = some (znn t) ∧ f262_l50 B (znn s) zfu (znn s) 0 = some (znn (s ||| t)) := by
    intro s hs
    obtain ⟨r, r', g1, g2, t, ht, rfl, rfl⟩ := zpair (fun f (a : Int32) c => f135_l4 (znn s) A f a c) (fun f (a : Int32) c => f262_l50 B (znn s) f a c) n (fun _ a d => ∃ t, t < 1024 ∧ a = znn t ∧ d = znn (s ||| t)) (fun a d => ∃ t, t < 1024 ∧ a = znn t ∧ d = znn (s ||| t)) (fun f i a d hi had => by
      obtain ⟨t, ht, rfl, rfl⟩ := had
      left
      (try dsimp only)
      have hlt : znn i < znn n := (zn_lt (by omega) (by omega)).mpr hi
      have hz : zin (znn i) 10 = true := (zn_zin (by omega)).mpr (by omega)
      have zz : zi (znn i) = i := zn_zi (by omega)
      obtain ⟨m1, m2, m3, m4, m5, m6, m7⟩ := mom_p h0 hi
      obtain ⟨-, -, ⟨u, hu, eu, -⟩, -⟩ := val_p h0 hi
      rw [f135_l4, f262_l50, h11, h48, if_pos hlt, if_pos hlt, isIn_zn (by omega) (by omega), zbit (by omega) (by omega), show zin (7 + znn i) 2064 = true from zx (d := 7) (by decide) (by omega), show zi (7 + znn i) = 7 + i from zy (d := 7) (by decide) (by omega), hz, zz, m4, eu, zadd1]
      simp only [Option.bind_some, zlet, ↓reduceIte]
      by_cases hb : s.testBit i = true
      · simp only [if_pos hb, if_neg h10, ↓reduceIte]
        exact ⟨znn (t ||| u), znn (s ||| (t ||| u)), ⟨t ||| u, Nat.or_lt_two_pow (n := 10) ht hu, rfl, rfl⟩, by rw [zn_or], by rw [zn_or, Nat.or_assoc]⟩
      · simp only [if_neg hb, if_neg (show ¬ (0 : Int32) = 1 by decide), ↓reduceIte]
        exact ⟨znn t, znn (s ||| t), ⟨t, ht, rfl, rfl⟩, rfl, by rw [Int32.or_zero]⟩) (fun f a d had => by
      have hng : ¬ znn n < znn n := by rw [zn_lt (by omega) (by omega)]; omega
      refine ⟨a, d, had, ?_, ?_⟩
      · (try dsimp only)
        rw [f135_l4, h11, if_neg hng]
      · (try dsimp only)
        rw [f262_l50, h48, if_neg hng]) zfu 0 0 (znn s) (by omega) (by rw [zfu_eq]; omega) ⟨0, by decide, rfl, by rw [Nat.or_zero]⟩
    have g1 : f135_l4 (znn s) A zfu 0 0 = some (znn t) := g1
    exact ⟨t, ht, by rw [f135_tiedTo, g1]; rfl, g2⟩
  obtain ⟨r, r', g1, g2, g3⟩ := zpair (fun f (a : Int32) c => f134_l31 (znn q) A f a c) (fun f (a : Int32) c => f262_l25 (znn q) B f a c) 10 (fun _ a d => a = d ∧ ∃ s, s < 1024 ∧ a = znn s) (fun a d => a = d) (fun f i a d hi had => by
    obtain ⟨rfl, s, hs, rfl⟩ := had
    (try dsimp only)
    have hlt : znn i < 10 := by rw [zl10, zn_lt (by omega) (by decide)]; exact hi
    obtain ⟨t, ht, e1, e2⟩ := inner s hs
    rw [f134_l31, f262_l25, if_pos hlt, if_pos hlt, isIn_zn (by omega) (by omega), zbit (by omega) (by omega), zadd1, e1, e2]
    simp only [Option.bind_some, zlet]
    by_cases hb : s.testBit q = true
    · simp only [if_pos hb, if_neg h10, ↓reduceIte]
      exact Or.inr ⟨_, _, rfl, rfl, rfl⟩
    · simp only [if_neg hb, if_neg (show ¬ (0 : Int32) = 1 by decide), ↓reduceIte]
      exact Or.inl ⟨znn (s ||| t), znn (s ||| t), ⟨rfl, s ||| t, Nat.or_lt_two_pow (n := 10) hs ht, rfl⟩, by rw [zn_or], rfl⟩) (fun f a d had => by
    refine ⟨-1, -1, rfl, ?_, ?_⟩
    · (try dsimp only)
      rw [f134_l31, if_neg (by decide)]
    · (try dsimp only)
      rw [f262_l25, if_neg (by decide)]) zfu 0 (znn (2 ^ p)) (znn (2 ^ p)) (by omega) (by rw [zfu_eq]; omega) ⟨rfl, 2 ^ p, pw, rfl⟩
  subst g3
  exact ⟨r, g1, g2⟩
