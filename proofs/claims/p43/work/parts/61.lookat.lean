theorem fN_part {P : Nat → Bool} {Q : Nat → Bool} : ∀ j, fN (fun r => P r && Q r) j ≤ fN P j
  | 0 => Nat.le_refl _
  | j + 1 => by
    have := fN_part (P := P) (Q := Q) j
    unfold fN
    cases h1 : P j <;> cases h2 : Q j <;> simp <;> omega
theorem fN_all {P : Nat → Bool} {Q : Nat → Bool} : ∀ j, fN (fun r => P r && Q r) j = fN P j → ∀ s, s < j → P s = true → Q s = true
  | 0, _, s, hs, _ => by omega
  | j + 1, h, s, hs, hP => by
    have h0 := fN_part (P := P) (Q := Q) j
    unfold fN at h
    by_cases hsj : s = j
    · subst hsj
      cases h2 : Q s with
      | true => rfl
      | false =>
        simp [hP, h2] at h
        omega
    · refine fN_all j ?_ s (by omega) hP
      cases h1 : P j <;> cases h2 : Q j <;> simp [h1, h2] at h <;> omega
theorem fN_two {P : Nat → Bool} : ∀ j, 2 ≤ fN P j → ∃ s r, s < r ∧ r < j ∧ P s = true ∧ P r = true
  | 0, h => by simp [fN] at h
  | j + 1, h => by
    by_cases h2 : 2 ≤ fN P j
    · obtain ⟨s, r, q1, q2, q3⟩ := fN_two j h2
      exact ⟨s, r, q1, by omega, q3⟩
    · unfold fN at h
      have hj : P j = true := by
        cases hj : P j with
        | true => rfl
        | false => rw [hj] at h; simp at h; omega
      have h1 : 0 < fN P j := by
        rw [if_pos hj] at h; omega
      have : ∃ s, s < j ∧ P s = true := by
        apply Classical.byContradiction
        intro hc
        have : fN P j = 0 := fN_skip' (Nat.zero_le _) (fun s _ hs => by
          cases hP : P s with
          | false => rfl
          | true => exact absurd ⟨s, hs, hP⟩ hc)
        omega
      obtain ⟨s, hs, hP⟩ := this
      exact ⟨s, j, hs, by omega, hP, hj⟩
theorem mx_zn {N c : Nat} (hN : N ≤ 4096) (hc : c ≤ N) : zmax (znn c) (znn N - znn c) = znn (max c (N - c)) := by
  rw [zn_sub (by omega), zmax_zn (by omega) (by omega)]
/-- there is a work that tells -/
theorem tells_one {w : Nat → Int32} {n k p : Nat} (hN : 2 ≤ fN (fB w k p) (2 ^ k)) : ∃ i, i < k ∧ w (90 + 6 * i) = znn p ∧ 0 < fN (fun r => fB w k p r && r.testBit i) (2 ^ k) ∧ fN (fun r => fB w k p r && r.testBit i) (2 ^ k) < fN (fB w k p) (2 ^ k) := by
  obtain ⟨s, r, h1, h2, h3, h4⟩ := fN_two _ hN
  have hd : ∃ i, s.testBit i ≠ r.testBit i := by
    apply Classical.byContradiction
    intro hc
    have : s = r := Nat.eq_of_testBit_eq (fun i => Classical.byContradiction fun h => hc ⟨i, h⟩)
    omega
  obtain ⟨i, hi⟩ := hd
  have own : ∀ q, q < 2 ^ k → fB w k p q = true → q.testBit i = true → i < k ∧ w (90 + 6 * i) = znn p := by
    intro q hq hF hb
    have hik := tb_lt hq hb
    unfold fB at hF
    simp only [Bool.and_eq_true, decide_eq_true_eq] at hF
    exact ⟨hik, (togB_iff.mp hF.2 i hik hb).1⟩
  have done : ∀ q q', q < 2 ^ k → q' < 2 ^ k → fB w k p q = true → fB w k p q' = true → q.testBit i = true → q'.testBit i = false → ∃ i, i < k ∧ w (90 + 6 * i) = znn p ∧ 0 < fN (fun r => fB w k p r && r.testBit i) (2 ^ k) ∧ fN (fun r => fB w k p r && r.testBit i) (2 ^ k) < fN (fB w k p) (2 ^ k) := by
    intro q q' hq hq' g1 g2 g3 g4
    obtain ⟨o1, o2⟩ := own q hq g1 g3
    refine ⟨i, o1, o2, fN_pos (P := fun r => fB w k p r && r.testBit i) (s := q) (by simp [g1, g3]) _ hq, ?_⟩
    have hle := fN_part (P := fB w k p) (Q := fun r => r.testBit i) (2 ^ k)
    have hne : fN (fun r => fB w k p r && r.testBit i) (2 ^ k) ≠ fN (fB w k p) (2 ^ k) := by
      intro hc
      have := fN_all (P := fB w k p) (Q := fun r => r.testBit i) _ hc q' hq' g2
      rw [g4] at this
      exact absurd this (by decide)
    omega
  cases hs : s.testBit i with
  | true =>
    cases hr : r.testBit i with
    | true => rw [hs, hr] at hi; exact absurd rfl hi
    | false => exact done s r (by omega) h2 h3 h4 hs hr
  | false =>
    cases hr : r.testBit i with
    | true => exact done r s h2 (by omega) h4 h3 hr hs
    | false => rw [hs, hr] at hi; exact absurd rfl hi
theorem fN_none {w : Nat → Int32} {k p i : Nat} (hi : ¬ w (90 + 6 * i) = znn p) : fN (fun r => fB w k p r && r.testBit i) (2 ^ k) = 0 := by
  refine fN_skip' (Nat.zero_le _) (fun s _ hs => ?_)
  cases h1 : fB w k p s with
  | false => rfl
  | true =>
    cases h2 : s.testBit i with
    | false => rfl
    | true =>
      unfold fB at h1
      simp only [Bool.and_eq_true, decide_eq_true_eq] at h1
      exact absurd (togB_iff.mp h1.2 i (tb_lt hs h2) h2).1 hi
theorem sync_lookAt (x : Int32) : sync (f113_lookAt x) (fun M => (f255_lookAt x M).bind fun v => some (v, M)) := sync_q (by
  intro A B n k c b h0
  have hk := h0.2.1.2.2.1
  have hn := h0.2.1.1.1
  have h52 : B 149 52 = znn k := hk.2.1
  have hk12 := hk.1
  have hmo := h0.2.2.2.1.2.2.2.1
  rcases has_eq h0 x with ⟨p, hp, rfl, e1, e2⟩ | ⟨e1, e2⟩
  case inr => exact ⟨-1, A, B, by unfold f113_lookAt; rw [e1]; rfl, by unfold f255_lookAt; (try dsimp only); rw [e2]; rfl, scrA_refl A, scrB_refl B, fun _ _ => rfl, fun _ _ => rfl⟩
  obtain ⟨M, a1, a2⟩ := count_cls h0 hp
  have hA : ∀ o, 148 ≤ o → M o = A o := fun o ho => a2.2.2.2.1 o (by omega) (by omega)
  have hp4 := pow_4096 hk12
  have hc0 := cnt_ref0 (B := B) (p := p) rfl hk hn hmo
  have hwI : wrkIs A 21 (B 149) k := h0.1.2.2.1
  have h6 : M 21 6 = znn k := (a2.2.2.2.2 6 (by decide) (by decide)).trans (hwI.1.trans h52)
  have how : ∀ i, i < k → M 22 i = B 149 (90 + 6 * i) := fun i hi => by rw [a2.2.2.2.1 22 (by decide) (by decide)]; exact (hwI.2 i hi).1
  have h8 : M 21 8 = znn (fN (fB (B 149) k p) (2 ^ k)) := a2.1
  have h28 := a2.2.2.1
  have hle := fN_le (fB (B 149) k p) (2 ^ k)
  generalize hNd : fN (fB (B 149) k p) (2 ^ k) = N at *
  have hN4 : N ≤ 4096 := by omega
  by_cases hN2 : N < 2
  · refine ⟨-1, M, B, ?_, ?_, fit_scr a2, scrB_refl B, hA, fun _ _ => rfl⟩
    · unfold f113_lookAt f114_mostTelling
      rw [e1, Option.bind_some, if_neg (by decide), a1, Option.bind_some, h8, if_pos (show znn N < 2 by rw [zl2, zn_lt (by omega) (by decide)]; exact hN2)]
      rfl
    · (try dsimp only)
      obtain ⟨mf, hmf⟩ : ∃ m, zfu = m + 1 := ⟨99999, rfl⟩
      unfold f255_lookAt
      rw [e2, Option.bind_some, if_neg (by decide), hc0, Option.bind_some, hmf, f255_l27, h52, if_neg (show ¬ (1 : Int32) < znn N by rw [zl1, zn_lt (by decide) (by omega)]; omega)]
      by_cases hlt : (0 : Int32) < znn k
      · rw [if_pos hlt]; rfl
      · rw [if_neg hlt]; rfl
  obtain ⟨t, t1, t2, t3, t4⟩ := tells_one (n := n) (w := B 149) (k := k) (p := p) (by omega)
  rw [hNd] at t4
  have ng : ¬ znn N < 2 := by rw [zl2, zn_lt (by omega) (by decide)]; omega
  have gt1 : (1 : Int32) < znn N := by rw [zl1, zn_lt (by decide) (by omega)]; omega
  have hcl : ∀ i, fN (fun r => fB (B 149) k p r && r.testBit i) (2 ^ k) ≤ N := fun i => by
    have := fN_part (P := fB (B 149) k p) (Q := fun r => r.testBit i) (2 ^ k)
    omega
  obtain ⟨r, r', g1, g2, rfl⟩ := zpair (fun f (a : Int32 × Int32) c => f114_l17 21 (znn p) M f a.1 a.2 c) (fun f (d : Int32 × Int32) c => f255_l27 (znn p) B (znn N) f d.1 d.2 c) k
    (fun i a d => (∃ q v, q < k ∧ v < N ∧ a = (znn q, znn v) ∧ d = (znn q, znn v)) ∨ (i ≤ t ∧ (a.1 = -1 ∨ a.2 = znn N) ∧ ∃ z, N ≤ z ∧ z ≤ 100000 ∧ d.2 = znn z ∧ (z = N ∨ z = 100000))) (fun a d => a = d) (fun f i a d hi had => by
    obtain ⟨x1, x2⟩ := a
    obtain ⟨y1, y2⟩ := d
    left
    (try dsimp only)
    (try dsimp only at had)
    have lt : znn i < znn k := (zn_lt (by omega) (by omega)).mpr hi
    have hz : zin (znn i) 12 = true := (zn_zin (by omega)).mpr (by omega)
    have hci := hcl i
    have eC : f114_l17 21 (znn p) M (f + 1) x1 x2 (znn i) = (if B 149 (90 + 6 * i) = znn p then (if x1 = (-1 : Int32) then f114_l17 21 (znn p) M f (znn i) (znn (max (fN (fun r => fB (B 149) k p r && r.testBit i) (2 ^ k)) (N - fN (fun r => fB (B 149) k p r && r.testBit i) (2 ^ k)))) (znn (i + 1)) else (if znn (max (fN (fun r => fB (B 149) k p r && r.testBit i) (2 ^ k)) (N - fN (fun r => fB (B 149) k p r && r.testBit i) (2 ^ k))) < x2 then f114_l17 21 (znn p) M f (znn i) (znn (max (fN (fun r => fB (B 149) k p r && r.testBit i) (2 ^ k)) (N - fN (fun r => fB (B 149) k p r && r.testBit i) (2 ^ k)))) (znn (i + 1)) else f114_l17 21 (znn p) M f x1 x2 (znn (i + 1)))) else f114_l17 21 (znn p) M f x1 x2 (znn (i + 1))) := by
      rw [f114_l17, h6, if_pos lt, if_pos hz, if_pos hz, zlet_e, if_pos hz, zn_zi (by omega), show M (21 + 7) i = _ from h28 i hi, show M (21 + 1) i = _ from how i hi, h8, mx_zn hN4 hci, zlet_e]
      dsimp only
      rw [zadd1]
    have eR : f255_l27 (znn p) B (znn N) (f + 1) y1 y2 (znn i) = (if znn (max (fN (fun r => fB (B 149) k p r && r.testBit i) (2 ^ k)) (N - fN (fun r => fB (B 149) k p r && r.testBit i) (2 ^ k))) < y2 then f255_l27 (znn p) B (znn N) f (znn i) (znn (max (fN (fun r => fB (B 149) k p r && r.testBit i) (2 ^ k)) (N - fN (fun r => fB (B 149) k p r && r.testBit i) (2 ^ k)))) (znn (i + 1)) else f255_l27 (znn p) B (znn N) f y1 y2 (znn (i + 1))) := by
      rw [f255_l27, h52, if_pos lt, if_pos gt1, cnt_refI rfl hk hn hmo hi, Option.bind_some, gre_eq, Option.bind_some, mx_zn hN4 hci, zadd1, Option.bind_some]
    rw [eC, eR]
    have hnone := fN_none (w := B 149) (k := k) (p := p) (i := i)
    have ht : i = t → B 149 (90 + 6 * i) = znn p ∧ 0 < fN (fun r => fB (B 149) k p r && r.testBit i) (2 ^ k) ∧ fN (fun r => fB (B 149) k p r && r.testBit i) (2 ^ k) < N := fun h => by subst h; exact ⟨t2, t3, t4⟩
    generalize fN (fun r => fB (B 149) k p r && r.testBit i) (2 ^ k) = ci at *
    rcases had with ⟨q, v, hq, hv, h1, h2⟩ | ⟨hit, h1, z, hz1, hz2, h2, h3⟩
    · simp only [Prod.mk.injEq] at h1 h2
      obtain ⟨rfl, rfl⟩ := h1
      obtain ⟨rfl, rfl⟩ := h2
      by_cases ho : B 149 (90 + 6 * i) = znn p
      · rw [if_pos ho, if_neg (zn_ne_neg (by omega))]
        by_cases hlt : max ci (N - ci) < v
        · rw [if_pos ((zn_lt (by omega) (by omega)).mpr hlt), if_pos ((zn_lt (by omega) (by omega)).mpr hlt)]
          exact ⟨(_, _), (_, _), Or.inl ⟨i, max ci (N - ci), hi, by omega, rfl, rfl⟩, rfl, rfl⟩
        · rw [if_neg (by rw [zn_lt (by omega) (by omega)]; exact hlt), if_neg (by rw [zn_lt (by omega) (by omega)]; exact hlt)]
          exact ⟨(_, _), (_, _), Or.inl ⟨q, v, hq, hv, rfl, rfl⟩, rfl, rfl⟩
      · rw [if_neg ho, hnone ho, if_neg (by rw [zn_lt (by omega) (by omega)]; omega)]
        exact ⟨(_, _), (_, _), Or.inl ⟨q, v, hq, hv, rfl, rfl⟩, rfl, rfl⟩
    · subst h2
      by_cases ho : B 149 (90 + 6 * i) = znn p
      · by_cases hlt : max ci (N - ci) < N
        · rw [if_pos ho, if_pos ((zn_lt (by omega) (by omega)).mpr (show max ci (N - ci) < z by omega))]
          have e : ∀ X Y : Option Int32, (if x1 = (-1 : Int32) then X else (if znn (max ci (N - ci)) < x2 then X else Y)) = X := by
            intro X Y
            by_cases hx1 : x1 = -1
            · rw [if_pos hx1]
            · rw [if_neg hx1]
              rcases h1 with h1 | h1
              · exact absurd h1 hx1
              · rw [h1, if_pos ((zn_lt (by omega) (by omega)).mpr hlt)]
          rw [e]
          exact ⟨(_, _), (_, _), Or.inl ⟨i, max ci (N - ci), hi, hlt, rfl, rfl⟩, rfl, rfl⟩
        · have hmx : max ci (N - ci) = N := by omega
          have hne : i ≠ t := fun h => by
            obtain ⟨-, q1, q2⟩ := ht h
            omega
          rw [if_pos ho, hmx]
          have e : ∃ a1 a2, (a1 = -1 ∨ a2 = znn N) ∧ (if x1 = (-1 : Int32) then f114_l17 21 (znn p) M f (znn i) (znn N) (znn (i + 1)) else (if znn N < x2 then f114_l17 21 (znn p) M f (znn i) (znn N) (znn (i + 1)) else f114_l17 21 (znn p) M f x1 x2 (znn (i + 1)))) = f114_l17 21 (znn p) M f a1 a2 (znn (i + 1)) := by
            by_cases hx1 : x1 = -1
            · exact ⟨znn i, znn N, Or.inr rfl, by rw [if_pos hx1]⟩
            · rcases h1 with h1 | h1
              · exact absurd h1 hx1
              · exact ⟨x1, x2, Or.inr h1, by rw [if_neg hx1, h1, if_neg (by rw [zn_lt (by omega) (by omega)]; omega)]⟩
          obtain ⟨b1, b2, q1, q2⟩ := e
          rw [q2]
          by_cases hNz : N < z
          · rw [if_pos ((zn_lt (by omega) (by omega)).mpr hNz)]
            exact ⟨(b1, b2), (_, _), Or.inr ⟨by omega, q1, N, Nat.le_refl _, by omega, rfl, Or.inl rfl⟩, rfl, rfl⟩
          · rw [if_neg (by rw [zn_lt (by omega) (by omega)]; exact hNz)]
            exact ⟨(b1, b2), (_, _), Or.inr ⟨by omega, q1, z, hz1, hz2, rfl, h3⟩, rfl, rfl⟩
      · have hne : i ≠ t := fun h => ho (ht h).1
        have hmx : max 0 (N - 0) = N := by omega
        rw [if_neg ho, hnone ho, hmx]
        by_cases hNz : N < z
        · rw [if_pos ((zn_lt (by omega) (by omega)).mpr hNz)]
          exact ⟨(x1, x2), (_, _), Or.inr ⟨by omega, h1, N, Nat.le_refl _, by omega, rfl, Or.inl rfl⟩, rfl, rfl⟩
        · rw [if_neg (by rw [zn_lt (by omega) (by omega)]; exact hNz)]
          exact ⟨(x1, x2), (_, _), Or.inr ⟨by omega, h1, z, hz1, hz2, rfl, h3⟩, rfl, rfl⟩) (fun f a d had => by
    rcases had with ⟨q, v, hq, hv, rfl, rfl⟩ | ⟨hit, -⟩
    · have hng : ¬ znn k < znn k := by rw [zn_lt (by omega) (by omega)]; omega
      refine ⟨znn q, znn q, rfl, ?_, ?_⟩
      · (try dsimp only)
        rw [f114_l17, h6, if_neg hng]
      · (try dsimp only)
        rw [f255_l27, h52, if_neg hng]
    · omega) zfu 0 (-1, 0) (-1, 100000) (by omega) (by rw [zfu_eq]; omega) (Or.inr ⟨by omega, Or.inl rfl, 100000, by omega, by omega, rfl, Or.inr rfl⟩)
  have g1 : f114_l17 21 (znn p) M zfu (-1) 0 0 = some r := g1
  have g2 : f255_l27 (znn p) B (znn N) zfu (-1) 100000 0 = some r := g2
  refine ⟨r, M, B, ?_, ?_, fit_scr a2, scrB_refl B, hA, fun _ _ => rfl⟩
  · unfold f113_lookAt f114_mostTelling
    rw [e1, Option.bind_some, if_neg (by decide), a1, Option.bind_some, h8, if_neg ng, g1]
    rfl
  · (try dsimp only)
    unfold f255_lookAt
    rw [e2, Option.bind_some, if_neg (by decide), hc0, Option.bind_some, g2]
    rfl)
