def WS (A B A' B' : ZI) (k e : Nat) (vs : Nat → Int32) : Prop := (∀ d j, d < 6 → A' (135 + d) j = if d < e ∧ j = k then vs d else A (135 + d) j) ∧ (∀ j, B' 156 j = if 6 * k ≤ j ∧ j < 6 * k + e then vs (j - 6 * k) else B 156 j) ∧ (∀ o, o ≠ 119 → ¬ (135 ≤ o ∧ o ≤ 140) → A' o = A o) ∧ (∀ o, o ≠ 148 → o ≠ 156 → B' o = B o) ∧ B' 148 17 = znn k
theorem WS_step {A B A1 B1 A2 B2 : ZI} {k e : Nat} {vs : Nat → Int32} {x : Int32} (he : e < 6) (h : WS A B A1 B1 k e vs) (g1 : ∀ j, A2 (135 + e) j = if j = k then x else A1 (135 + e) j) (g2 : ∀ j, B2 156 j = if j = 6 * k + e then x else B1 156 j) (g3 : ∀ o, o ≠ 119 → o ≠ 135 + e → A2 o = A1 o) (g4 : ∀ o, o ≠ 148 → o ≠ 156 → B2 o = B1 o) (g5 : B2 148 17 = znn k) : WS A B A2 B2 k (e + 1) (fun d => if d = e then x else vs d) := by
  obtain ⟨h1, h2, h3, h4, h5⟩ := h
  refine ⟨fun d j hd => ?_, fun j => ?_, fun o o1 o2 => (g3 o o1 (by omega)).trans (h3 o o1 o2), fun o o1 o2 => (g4 o o1 o2).trans (h4 o o1 o2), g5⟩
  · dsimp only
    by_cases hde : d = e
    · subst hde
      rw [g1]
      by_cases hj : j = k
      · rw [if_pos hj, if_pos ⟨by omega, hj⟩, if_pos rfl]
      · rw [if_neg hj, if_neg (by omega), h1 d j hd, if_neg (by omega)]
    · rw [g3 _ (by omega) (by omega), h1 d j hd]
      by_cases hc : d < e ∧ j = k
      · rw [if_pos hc, if_pos ⟨by omega, hc.2⟩, if_neg hde]
      · rw [if_neg hc, if_neg (by omega)]
  · dsimp only
    rw [g2]
    by_cases hj : j = 6 * k + e
    · rw [if_pos hj, if_pos (by omega), if_pos (by omega)]
    · rw [if_neg hj, h2]
      by_cases hc : 6 * k ≤ j ∧ j < 6 * k + e
      · rw [if_pos hc, if_pos (by omega), if_neg (by omega)]
      · rw [if_neg hc, if_neg (by omega)]
def okW (B : ZI) (n i : Nat) : Prop := (∃ o, o < n ∧ B 156 (6 * i) = znn o) ∧ (∃ h, 1 ≤ h ∧ h ≤ 24 ∧ B 156 (6 * i + 1) = znn h) ∧ (∃ h, h ≤ 99 ∧ B 156 (6 * i + 2) = znn h) ∧ (∃ h, h ≤ 9 ∧ B 156 (6 * i + 3) = znn h) ∧ (∃ h, h ≤ 9 ∧ B 156 (6 * i + 4) = znn h) ∧ (B 156 (6 * i + 5) = -1 ∨ ∃ j, j < i ∧ B 156 (6 * i + 5) = znn j ∧ B 156 (6 * j) = B 156 (6 * i))
def WC (A B : ZI) (n k : Nat) : Prop := k ≤ 12 ∧ A 134 6 = znn k ∧ B 148 17 = znn k ∧ (∀ d i, d < 6 → i < k → A (135 + d) i = B 156 (6 * i + d)) ∧ ∀ i, i < k → okW B n i
theorem okW_of {B B' : ZI} {n i : Nat} (h : okW B n i) (g : ∀ j, j < 6 * i + 6 → B' 156 j = B 156 j) : okW B' n i := by
  obtain ⟨h1, h2, h3, h4, h5, h6⟩ := h
  unfold okW
  rw [g (6 * i) (by omega), g (6 * i + 1) (by omega), g (6 * i + 2) (by omega), g (6 * i + 3) (by omega), g (6 * i + 4) (by omega), g (6 * i + 5) (by omega)]
  refine ⟨h1, h2, h3, h4, h5, ?_⟩
  rcases h6 with h6 | ⟨j, j1, j2, j3⟩
  · exact Or.inl h6
  · exact Or.inr ⟨j, j1, j2, by rw [g (6 * j) (by omega)]; exact j3⟩
def WQ (b : Nat → Nat) (t n N : Nat) (A0 B0 A' B' : ZI) : Prop := ∃ m k, PS 2 b t N A0 B0 A' B' m ∧ WC A' B' n k
theorem l7_eq (f : Nat) (x2 : Int32) (M3 : ZI) : f183_l7 (f + 1) x2 M3 = (if x2 = 0 then some (x2, M3) else (if (M3 148 21) = 0 then some (x2, M3) else (f184_aWork M3).bind fun (v4, M5) => f183_l7 f v4 M5)) := rfl
theorem l7_0 (f : Nat) (M3 : ZI) : f183_l7 (f + 1) 0 M3 = some (0, M3) := by rw [l7_eq, if_pos rfl]
set_option maxRecDepth 20000 in
theorem work_loop {b : Nat → Nat} {t n N : Nat} {A0 B0 : ZI} (hC : CX 2 b t n N A0 B0) : ∀ f m x2 k g A B, N - m < f → N - m < g → 2 * x2 + (N - m) ≤ 400 → PS 2 b t N A0 B0 A B m → WC A B n k →
    Both A0 B0 (f85_l10 119 f (znn x2) A) (f183_l7 g 1 B) (WQ b t n N A0 B0)
  | 0, m, x2, k, g, A, B, h1, h2, h3, h, hw => by omega
  | f + 1, m, x2, k, g, A, B, h1, h2, h3, h, hw => by
    obtain ⟨g, rfl⟩ : ∃ q, g = q + 1 := ⟨g - 1, by omega⟩
    have hN := hC.2.1.1
    have hmN := h.1.2.2
    have hn10 := hC.1.2.2
    obtain ⟨hk12, hwA, hwB, hwr, hwo⟩ := id hw
    have hA7 : A 119 7 = tkK b t m := h.2.1.2.1
    have hB21 : B 148 21 = tkT 2 b t m := h.2.2.2.2.1
    have iend := tk_iff (a := 2) (k := -1) (x := 0) (by decide +kernel) b t m
    have i273 := tk_iff (a := 2) (k := 273) (x := 8) (by decide +kernel) b t m
    have hn9 : A 119 9 = znn n := by rw [h.1.1.2 9 (by decide) (by decide) (by decide) (by decide) (by decide)]; exact hC.2.2.1.2.2
    have hn48 : B 149 48 = znn n := by rw [h.1.2.1.1 149 (by decide) (by omega)]; exact hC.2.2.2.2.2
    have h10 : ¬ (1 : Int32) = 0 := by decide
    rw [f85_l10, l7_eq, if_pos (show znn x2 < 400 by rw [zl400, zn_lt (by omega) (by decide)]; omega), if_neg h10, hA7, hB21]
    by_cases kend : tkK b t m = -1
    · rw [if_pos kend, if_pos (iend.mp kend)]
      exact Or.inr ⟨A, B, rfl, rfl, m, k, h, hw⟩
    rw [if_neg kend, if_neg (fun hx => kend (iend.mpr hx))]
    have hm : m < N := (tk_end hC h).2 kend
    obtain ⟨g, rfl⟩ : ∃ q, g = q + 1 := ⟨g - 1, by omega⟩
    unfold f184_aWork
    rw [hB21]
    by_cases k273 : tkK b t m = 273
    case neg =>
      obtain ⟨A', B', r1, r2, r3⟩ := rfz hC h 1
      rw [if_neg k273, if_neg (fun hx => k273 (i273.mpr hx)), r1, r2]
      exact Or.inl ⟨A', B', rfl, l7_0 _ _, r3⟩
    rw [if_pos k273, if_pos (i273.mp k273), show 119 + 15 = 134 from rfl, hwA, hwB]
    by_cases hkk : k < 12
    case neg =>
      obtain ⟨A', B', r1, r2, r3⟩ := rfz hC h 3
      rw [if_neg (show ¬ znn k < 12 by rw [zl12, zn_lt (by omega) (by decide)]; exact hkk), if_pos (show znn k = 12 by rw [zl12, zn_eq (by omega) (by decide)]; omega), r1, r2]
      exact Or.inl ⟨A', B', rfl, l7_0 _ _, r3⟩
    rw [if_pos (show znn k < 12 by rw [zl12, zn_lt (by omega) (by decide)]; exact hkk), if_neg (show ¬ znn k = 12 by rw [zl12, zn_eq (by omega) (by decide)]; omega), hn9, hn48, Option.bind_assoc]
    have W0 : WS A B A B k 0 (fun _ => 0) := ⟨fun d j _ => by rw [if_neg (by omega)], fun j => by rw [if_neg (by omega)], fun _ _ _ => rfl, fun _ _ _ => rfl, hwB⟩
    have E0 : Both A0 B0 (f86_readEntry 119 273 (119 + 16) 0 (znn n - 1) A) (f185_told 0 8 0 (znn n - 1) B) _ := entry_step (d := 0) hC h (by decide) rfl hkk hwA hwB (by decide +kernel) (by decide)
    refine both_bind E0 (fun _ => rfl) (fun B' => l7_0 _ _) (fun A1 B1 hq => ?_)
    obtain ⟨m1, v0, p1, u1, _, a1, b1, c1, d1, e1, f1, g1⟩ := hq
    have W1 := WS_step (by decide) W0 c1 d1 e1 f1 g1
    dsimp only
    rw [if_neg h10, if_neg h10, Option.bind_assoc, Option.bind_assoc]
    have E1 : Both A0 B0 (f86_readEntry 119 274 (119 + 17) 1 24 A1) (f185_told 1 9 1 24 B1) _ := entry_step (d := 1) hC p1 (by decide) rfl hkk (by rw [W1.2.2.1 134 (by decide) (by omega)]; exact hwA) g1 (by decide +kernel) (by decide)
    refine both_bind E1 (fun _ => rfl) (fun B' => l7_0 _ _) (fun A2 B2 hq => ?_)
    obtain ⟨m2, v1, p2, u2, _, a2, b2, c2, d2, e2, f2, g2⟩ := hq
    have W2 := WS_step (by decide) W1 c2 d2 e2 f2 g2
    dsimp only
    rw [if_neg h10, if_neg h10, Option.bind_assoc, Option.bind_assoc]
    have E2 : Both A0 B0 (f86_readEntry 119 275 (119 + 18) 0 99 A2) (f185_told 2 10 0 99 B2) _ := entry_step (d := 2) hC p2 (by decide) rfl hkk (by rw [W2.2.2.1 134 (by decide) (by omega)]; exact hwA) g2 (by decide +kernel) (by decide)
    refine both_bind E2 (fun _ => rfl) (fun B' => l7_0 _ _) (fun A3 B3 hq => ?_)
    obtain ⟨m3, v2, p3, u3, _, a3, b3, c3, d3, e3, f3, g3⟩ := hq
    have W3 := WS_step (by decide) W2 c3 d3 e3 f3 g3
    dsimp only
    rw [if_neg h10, if_neg h10, Option.bind_assoc, Option.bind_assoc]
    have E3 : Both A0 B0 (f86_readEntry 119 276 (119 + 19) 0 9 A3) (f185_told 3 11 0 9 B3) _ := entry_step (d := 3) hC p3 (by decide) rfl hkk (by rw [W3.2.2.1 134 (by decide) (by omega)]; exact hwA) g3 (by decide +kernel) (by decide)
    refine both_bind E3 (fun _ => rfl) (fun B' => l7_0 _ _) (fun A4 B4 hq => ?_)
    obtain ⟨m4, v3, p4, u4, _, a4, b4, c4, d4, e4, f4, g4⟩ := hq
    have W4 := WS_step (by decide) W3 c4 d4 e4 f4 g4
    dsimp only
    rw [if_neg h10, if_neg h10, Option.bind_assoc, Option.bind_assoc]
    have E4 : Both A0 B0 (f86_readEntry 119 277 (119 + 20) 0 9 A4) (f185_told 4 12 0 9 B4) _ := entry_step (d := 4) hC p4 (by decide) rfl hkk (by rw [W4.2.2.1 134 (by decide) (by omega)]; exact hwA) g4 (by decide +kernel) (by decide)
    refine both_bind E4 (fun _ => rfl) (fun B' => l7_0 _ _) (fun A5 B5 hq => ?_)
    obtain ⟨m5, v4, p5, u5, _, a5, b5, c5, d5, e5, f5, g5⟩ := hq
    have W5 := WS_step (by decide) W4 c5 d5 e5 f5 g5
    dsimp only
    rw [if_neg h10, if_neg h10, Option.bind_assoc, Option.bind_assoc]
    have E5 := after_step hC p5 hkk (by rw [W5.2.2.1 134 (by decide) (by omega)]; exact hwA) g5 (fun i hi => by
      rw [show (135 : Nat) = 135 + 0 from rfl, W5.1 0 i (by decide), W5.2.1]
      by_cases hik : i = k
      · rw [if_pos ⟨by decide, hik⟩, if_pos (by omega), show 6 * i - 6 * k = 0 by omega]
      · rw [if_neg (fun hc => hik hc.2), if_neg (by omega)]
        exact hwr 0 i (by decide) (by omega))
    refine both_bind E5 (fun _ => rfl) (fun B' => l7_0 _ _) (fun A6 B6 hq => ?_)
    obtain ⟨m6, x, p6, u6, hx, c6, d6, e6, f6, g6⟩ := hq
    have W6 := WS_step (by decide) W5 c6 d6 e6 f6 g6
    dsimp only
    rw [if_neg h10, if_neg h10, zlet_e, g6, zadd1, zadd1]
    have p7 : PS 2 b t N A0 B0 A6 (zs B6 148 17 (znn (k + 1))) m6 := PS_of p6 (fun _ _ => rfl) (fun o o1 o2 => by rw [zs_df o1]) (fun j hj => by rw [zs_sm, if_neg (by rintro rfl; exact absurd hj (by decide))])
    rcases skip_need (k := 59) (x := 159) hC p7 (by decide +kernel) (by decide) with ⟨s1, s2, s3⟩ | ⟨A', B', r1, r2, r3⟩
    case inr =>
      rw [r1, r2]
      exact Or.inl ⟨A', B', rfl, l7_0 _ _, r3⟩
    obtain ⟨A7, B7, l1, l2, l3, l4, l5, l6⟩ := fwd hC p7 s1
    have a134 : A7 134 6 = znn k := by rw [l4 134 (by decide), W6.2.2.1 134 (by decide) (by omega)]; exact hwA
    rw [s2, s3, l1, l2, Option.bind_some, Option.bind_some, Option.bind_some, Option.bind_some]
    dsimp only
    rw [if_neg h10, if_pos (show zbl (1 : Int32) = true from rfl), Option.bind_some, Option.bind_some]
    dsimp only
    rw [if_neg h10, zlet_e, a134, zadd1]
    have p8 : PS 2 b t N A0 B0 (zs A7 134 6 (znn (k + 1))) B7 (m6 + 1) := PS_of l3 (fun o ho => by rw [zs_df (by omega)]) (fun _ _ _ => rfl) (fun _ _ => rfl)
    refine work_loop hC f (m6 + 1) (x2 + 1) (k + 1) (g + 1) _ B7 (by omega) (by omega) (by omega) p8 ?_
    have e156 : B7 156 = B6 156 := by rw [l5 156 (by decide), zs_df (by decide)]
    have q0 := W6.2.1 (6 * k)
    have q1 := W6.2.1 (6 * k + 1)
    have q2 := W6.2.1 (6 * k + 2)
    have q3 := W6.2.1 (6 * k + 3)
    have q4 := W6.2.1 (6 * k + 4)
    have q5 := W6.2.1 (6 * k + 5)
    rw [if_pos (by omega), show 6 * k - 6 * k = 0 by omega] at q0
    rw [if_pos (by omega), show 6 * k + 1 - 6 * k = 1 by omega] at q1
    rw [if_pos (by omega), show 6 * k + 2 - 6 * k = 2 by omega] at q2
    rw [if_pos (by omega), show 6 * k + 3 - 6 * k = 3 by omega] at q3
    rw [if_pos (by omega), show 6 * k + 4 - 6 * k = 4 by omega] at q4
    rw [if_pos (by omega), show 6 * k + 5 - 6 * k = 5 by omega] at q5
    refine ⟨by omega, by rw [zs_sm, if_pos rfl], ?_, fun d i hd hi => ?_, fun i hi => ?_⟩
    · rw [l6 17 (by decide) (by decide) (by decide) (by decide), zs_sm, if_pos rfl]
    · rw [zs_df (by omega), l4 _ (by omega), e156, W6.1 d i hd, W6.2.1]
      by_cases hik : i = k
      · rw [if_pos ⟨hd, hik⟩, if_pos (by omega), show 6 * i + d - 6 * k = d by omega]
      · rw [if_neg (fun hc => hik hc.2), if_neg (by omega)]
        exact hwr d i hd (by omega)
    · by_cases hik : i = k
      · subst hik
        unfold okW
        rw [e156, q0, q1, q2, q3, q4, q5]
        refine ⟨⟨v0, zn_pred hn10 (by omega) b1, rfl⟩, ⟨v1, ?_, ?_, rfl⟩, ⟨v2, ?_, rfl⟩, ⟨v3, ?_, rfl⟩, ⟨v4, ?_, rfl⟩, ?_⟩
        · rw [zl1, zn_lt (by omega) (by omega)] at a2; omega
        · rw [zl24, zn_lt (by omega) (by omega)] at b2; omega
        · rw [zl99, zn_lt (by omega) (by omega)] at b3; omega
        · rw [zl9, zn_lt (by omega) (by omega)] at b4; omega
        · rw [zl9, zn_lt (by omega) (by omega)] at b5; omega
        · rcases hx with hx | ⟨j, j1, j2, j3⟩
          · exact Or.inl hx
          · refine Or.inr ⟨j, j1, j2, ?_⟩
            have r0 := d6 (6 * i)
            have rj := d6 (6 * j)
            rw [if_neg (by omega)] at r0 rj
            rw [rj, j3, ← r0]
            exact q0
      · exact okW_of (hwo i (by omega)) (fun j hj => by rw [e156, W6.2.1, if_neg (by omega)])
theorem work_read {b : Nat → Nat} {t n N : Nat} {A0 B0 A B : ZI} (hC : CX 2 b t n N A0 B0) (h : PS 2 b t N A0 B0 A B 0) : Both A0 B0 (f85_readWorks 119 A) (f183_readsWorks B) (WQ b t n N A0 B0) := by
  have hN := hC.2.1.1
  have hP : PS 2 b t N A0 B0 (zs A 134 6 0) (zs B 148 17 0) 0 := PS_of h (fun o ho => by rw [zs_df (by omega)]) (fun o o1 o2 => by rw [zs_df o1]) (fun j hj => by rw [zs_sm, if_neg (by rintro rfl; exact absurd hj (by decide))])
  have key := work_loop hC zfu 0 0 0 zfu _ _ (by rw [zfu_eq]; omega) (by rw [zfu_eq]; omega) (by omega) hP ⟨by omega, by rw [zs_sm, if_pos rfl]; rfl, by rw [zs_sm, if_pos rfl]; rfl, fun d i _ hi => by omega, fun i hi => by omega⟩
  unfold f85_readWorks f183_readsWorks
  rw [zlet_e, zlet_e]
  rcases key with ⟨A', B', e1, e2, e3⟩ | ⟨A', B', e1, e2, e3⟩
  · exact Or.inl ⟨A', B', e1, by rw [e2]; rfl, e3⟩
  · exact Or.inr ⟨A', B', e1, by rw [e2]; rfl, e3⟩
