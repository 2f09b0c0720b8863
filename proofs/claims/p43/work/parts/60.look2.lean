theorem hits_eq {r i : Nat} : (r &&& 2 ^ i = 2 ^ i) ↔ r.testBit i = true := by
  constructor
  · intro h
    have := congrArg (fun x => x.testBit i) h
    simp only [Nat.testBit_and, Nat.testBit_two_pow_self, Bool.and_true] at this
    exact this
  · intro h
    apply Nat.eq_of_testBit_eq
    intro j
    rw [Nat.testBit_and, Nat.testBit_two_pow]
    by_cases hij : i = j
    · subst hij
      simp [h]
    · simp [hij]
theorem cnt_ref {B : ZI} {w : Nat → Int32} {n k p m : Nat} (hw : B 149 = w) (hk : wrkOk w n k) (hn : n ≤ 10) (hmo : ∃ d, d < 4096 ∧ w 6 = znn d) (hm : m < 4096) : f252_fitsWith (znn p) (znn m) B = some (znn (fN (fun r => fB w k p r && decide (r &&& m = m)) (2 ^ k))) := by
  have hk12 := hk.1
  have hp4 := pow_4096 hk12
  have h52 : B 149 52 = znn k := by rw [hw]; exact hk.2.1
  have sh : zshl 1 (znn k) = znn (2 ^ k) := by rw [zl1]; exact zn_shl (by omega)
  obtain ⟨r, g1, rfl⟩ := zloop (fun f (a : Int32) c => f252_l5 (znn p) (znn m) B f a c) (2 ^ k) (fun i a => a = znn (fN (fun r => fB w k p r && decide (r &&& m = m)) i)) (fun a => a = znn (fN (fun r => fB w k p r && decide (r &&& m = m)) (2 ^ k))) (fun f i a hi ha => by
    subst ha
    left
    (try dsimp only)
    have l1 : i &&& m < 4096 := Nat.lt_of_le_of_lt Nat.and_le_right hm
    rw [f252_l5, h52, sh, if_pos ((zn_lt (by omega) (by omega)).mpr hi), zn_and, fits_ref hw hk hn hmo hi, zadd1]
    refine ⟨_, rfl, ?_⟩
    by_cases hc : i &&& m = m
    · rw [if_pos (show znn (i &&& m) = znn m by rw [hc]), Option.bind_some]
      by_cases hF : fB w k p i = true
      · rw [if_pos hF, if_neg (by decide), zlet_e, fN, if_pos (by rw [hF, decide_eq_true hc]; rfl), zadd1]
      · rw [if_neg hF, if_pos rfl, zlet_e, fN, if_neg (by simp [hF]), Int32.add_zero]
        rfl
    · rw [if_neg (by rw [zn_eq (by omega) (by omega)]; exact hc), zlet_e, fN, if_neg (by simp [hc]), Int32.add_zero]
      rfl) (fun f a ha => by
    refine ⟨a, ha, ?_⟩
    (try dsimp only)
    rw [f252_l5, h52, sh, if_neg (by rw [zn_lt (by omega) (by omega)]; omega)]) zfu 0 0 (Nat.zero_le _) (by rw [zfu_eq]; omega) rfl
  have g1 : f252_l5 (znn p) (znn m) B zfu 0 0 = some _ := g1
  unfold f252_fitsWith
  rw [g1]
  rfl
theorem fN_congr {P Q : Nat → Bool} : ∀ j, (∀ s, s < j → P s = Q s) → fN P j = fN Q j
  | 0, _ => rfl
  | j + 1, h => by
    unfold fN
    rw [fN_congr j (fun s hs => h s (by omega)), h j (by omega)]
theorem cnt_ref0 {B : ZI} {w : Nat → Int32} {n k p : Nat} (hw : B 149 = w) (hk : wrkOk w n k) (hn : n ≤ 10) (hmo : ∃ d, d < 4096 ∧ w 6 = znn d) : f252_fitsWith (znn p) 0 B = some (znn (fN (fB w k p) (2 ^ k))) := by
  rw [show (0 : Int32) = znn 0 from rfl, cnt_ref hw hk hn hmo (by decide), fN_congr (Q := fB w k p) _ (fun s _ => by simp)]
theorem cnt_refI {B : ZI} {w : Nat → Int32} {n k p i : Nat} (hw : B 149 = w) (hk : wrkOk w n k) (hn : n ≤ 10) (hmo : ∃ d, d < 4096 ∧ w 6 = znn d) (hi : i < k) : f252_fitsWith (znn p) (zshl 1 (znn i)) B = some (znn (fN (fun r => fB w k p r && r.testBit i) (2 ^ k))) := by
  have hk12 := hk.1
  have : 2 ^ i < 4096 := Nat.lt_of_lt_of_le (Nat.pow_lt_pow_right (by decide) (show i < 12 by omega)) (Nat.le_refl _)
  rw [show zshl 1 (znn i) = znn (2 ^ i) by rw [zl1]; exact zn_shl (by omega), cnt_ref hw hk hn hmo this, fN_congr (Q := fun r => fB w k p r && r.testBit i) _ (fun s _ => by
    by_cases h : s.testBit i = true
    · simp [h, hits_eq.mpr h]
    · have h' : ¬ s &&& 2 ^ i = 2 ^ i := fun hc => h (hits_eq.mp hc)
      simp [h, h'])]
theorem fst_ref {B : ZI} {w : Nat → Int32} {n k p : Nat} (hw : B 149 = w) (hk : wrkOk w n k) (hn : n ≤ 10) (hmo : ∃ d, d < 4096 ∧ w 6 = znn d) : ∃ v, f251_l32 (znn p) B zfu 0 = some v ∧ firstIs (fB w k p) (2 ^ k) v := by
  have hk12 := hk.1
  have hp4 := pow_4096 hk12
  have h52 : B 149 52 = znn k := by rw [hw]; exact hk.2.1
  have sh : zshl 1 (znn k) = znn (2 ^ k) := by rw [zl1]; exact zn_shl (by omega)
  obtain ⟨r, g1, g2⟩ := zloop (fun f (_ : Unit) c => f251_l32 (znn p) B f c) (2 ^ k) (fun i _ => ∀ s, s < i → fB w k p s = false) (fun v => firstIs (fB w k p) (2 ^ k) v) (fun f i a hi ha => by
    (try dsimp only)
    rw [f251_l32, h52, sh, if_pos ((zn_lt (by omega) (by omega)).mpr hi), fits_ref hw hk hn hmo hi, zadd1, Option.bind_some]
    by_cases hF : fB w k p i = true
    · right
      rw [if_pos hF, if_neg (by decide)]
      exact ⟨znn i, Or.inr ⟨i, hi, hF, rfl, ha⟩, rfl⟩
    · left
      rw [if_neg hF, if_pos rfl]
      refine ⟨(), fun s hs => ?_, rfl⟩
      by_cases hsi : s = i
      · rw [hsi]; simpa using hF
      · exact ha s (by omega)) (fun f a ha => by
    refine ⟨-1, Or.inl ⟨rfl, ha⟩, ?_⟩
    (try dsimp only)
    rw [f251_l32, h52, sh, if_neg (by rw [zn_lt (by omega) (by omega)]; omega)]) zfu 0 () (Nat.zero_le _) (by rw [zfu_eq]; omega) (fun s hs => by omega)
  exact ⟨r, g1, g2⟩
theorem sync_fits (x y : Int32) : sync (f109_fits x y) (fun M => (f251_fits x y M).bind fun v => some (v, M)) := sync_q (by
  intro A B n k c b h0
  have hk := h0.2.1.2.2.1
  have hn := h0.2.1.1.1
  have hmo := h0.2.2.2.1.2.2.2.1
  rcases has_eq h0 x with ⟨p, hp, rfl, e1, e2⟩ | ⟨e1, e2⟩
  case inr => exact ⟨-1, A, B, by unfold f109_fits; rw [e1]; rfl, by unfold f251_fits; (try dsimp only); rw [e2]; rfl, scrA_refl A, scrB_refl B, fun _ _ => rfl, fun _ _ => rfl⟩
  rcases within_ex (x := y) (lo := 0) (hi := 1) (by decide) (by decide) with ⟨u, -, hu, rfl, e3, e4⟩ | ⟨e3, e4⟩
  case inr => exact ⟨-1, A, B, by unfold f109_fits; rw [e1, show f13_within y 0 1 = some 0 from e3]; rfl, by unfold f251_fits; (try dsimp only); rw [e2, show f149_isIn y 0 1 = some 0 from e4]; rfl, scrA_refl A, scrB_refl B, fun _ _ => rfl, fun _ _ => rfl⟩
  obtain ⟨A1, a1, a2⟩ := count_cls h0 hp
  obtain ⟨v, f1, f2⟩ := fst_ref (B := B) (p := p) rfl hk hn hmo
  have hA : ∀ o, 148 ≤ o → A1 o = A o := fun o ho => a2.2.2.2.1 o (by omega) (by omega)
  have hu2 : u = 0 ∨ u = 1 := by omega
  rcases hu2 with rfl | rfl
  · refine ⟨znn (fN (fB (B 149) k p) (2 ^ k)), A1, B, ?_, ?_, fit_scr a2, scrB_refl B, hA, fun _ _ => rfl⟩
    · unfold f109_fits
      rw [e1, Option.bind_some, if_neg (by decide), show f13_within (znn 0) 0 1 = some 1 from e3, Option.bind_some, if_neg (by decide), a1, Option.bind_some, if_pos (show znn 0 = 0 from rfl), a2.1]
    · (try dsimp only)
      unfold f251_fits
      rw [e2, Option.bind_some, if_neg (by decide), show f149_isIn (znn 0) 0 1 = some 1 from e4, Option.bind_some, if_neg (by decide), if_pos (show znn 0 = 0 from rfl), cnt_ref0 rfl hk hn hmo]
      rfl
  · refine ⟨v, A1, B, ?_, ?_, fit_scr a2, scrB_refl B, hA, fun _ _ => rfl⟩
    · unfold f109_fits
      rw [e1, Option.bind_some, if_neg (by decide), show f13_within (znn 1) 0 1 = some 1 from e3, Option.bind_some, if_neg (by decide), a1, Option.bind_some, if_neg (show ¬ znn 1 = 0 by decide), firstIs_one a2.2.1 f2]
    · (try dsimp only)
      unfold f251_fits
      rw [e2, Option.bind_some, if_neg (by decide), show f149_isIn (znn 1) 0 1 = some 1 from e4, Option.bind_some, if_neg (by decide), if_neg (show ¬ znn 1 = 0 by decide), f1]
      rfl)
theorem sync_thieves : sync f129_thieves (fun M => (f254_thieves M).bind fun v => some (v, M)) := sync_q (by
  intro A B n k c b h0
  have hk := h0.2.1.2.2.1
  have hn := h0.2.1.1.1
  have h48 := h0.2.1.1.2.1
  have hmo := h0.2.2.2.1.2.2.2.1
  obtain ⟨⟨r1, A'⟩, r2, g1, g2, g3, g4, g5⟩ := zpair (fun f (a : Int32 × ZI) c => f129_l4 f a.1 c a.2) (fun f (d : Int32) c => f254_l4 B f d c) n (fun _ a d => a.1 = d ∧ scrA A a.2 ∧ ∀ o, 148 ≤ o → a.2 o = A o) (fun a d => a.1 = d ∧ scrA A a.2 ∧ ∀ o, 148 ≤ o → a.2 o = A o) (fun f i a d hi had => by
    obtain ⟨x1, M⟩ := a
    obtain ⟨rfl, hs, hA⟩ := had
    left
    (try dsimp only at hs hA)
    (try dsimp only)
    have hI : Inv5 M B n k c b := Inv5_scr h0 hs rfl
    have h11 : M 1 11 = znn n := hI.1.1.1.1.trans h48
    have lt : znn i < znn n := (zn_lt (by omega) (by omega)).mpr hi
    obtain ⟨M1, a1, a2⟩ := count_cls hI hi
    obtain ⟨v, f1, f2⟩ := fst_ref (B := B) (p := i) rfl hk hn hmo
    have hN := fN_le (fB (B 149) k i) (2 ^ k)
    have hp4 := pow_4096 hk.1
    have ev : f251_fits (znn i) 1 B = some v := by
      rcases has_eq h0 (znn i) with ⟨p, hp, e0, e1, e2⟩ | ⟨e1, e2⟩
      · unfold f251_fits
        rw [e2, Option.bind_some, if_neg (by decide), show f149_isIn 1 0 1 = some 1 from by decide, Option.bind_some, if_neg (by decide), if_neg (by decide), f1]
      · exfalso
        unfold f152_isPerson f149_isIn at e2
        rw [h48, if_neg (zn_nneg (by omega)), if_neg (show ¬ znn n - 1 < znn i by rw [zl1, zn_sub (by omega), zn_lt (by omega) (by omega)]; omega)] at e2
        exact absurd e2 (by decide)
    rw [f129_l4, f254_l4, h11, h48, if_pos lt, if_pos lt, a1, ev, Option.bind_some, Option.bind_some, a2.1, zadd1]
    have hs2 : scrA A M1 := scrA_trans hs (fit_scr a2)
    have hA2 : ∀ o, 148 ≤ o → M1 o = A o := fun o ho => (a2.2.2.2.1 o (by omega) (by omega)).trans (hA o ho)
    simp only [zlet_e]
    rcases f2 with ⟨rfl, f2⟩ | ⟨s, q1, q2, rfl, -⟩
    · have : fN (fB (B 149) k i) (2 ^ k) = 0 := fN_skip' (Nat.zero_le _) (fun s _ hs => f2 s hs)
      rw [this, if_neg (show ¬ (0 : Int32) < znn 0 by decide), if_pos rfl]
      exact ⟨(x1, M1), x1, ⟨rfl, hs2, hA2⟩, rfl, by rw [Int32.or_zero]⟩
    · have := fN_pos q2 _ q1
      rw [if_pos (show (0 : Int32) < znn (fN (fB (B 149) k i) (2 ^ k)) by rw [zl0, zn_lt (by decide) (by omega)]; exact this), if_neg (zn_ne_neg (by omega))]
      exact ⟨(_, M1), _, ⟨rfl, hs2, hA2⟩, rfl, rfl⟩) (fun f a d had => by
    obtain ⟨x1, M⟩ := a
    have hI : Inv5 M B n k c b := Inv5_scr h0 had.2.1 rfl
    have h11 : M 1 11 = znn n := hI.1.1.1.1.trans h48
    have hng : ¬ znn n < znn n := by rw [zn_lt (by omega) (by omega)]; omega
    refine ⟨(x1, M), d, had, ?_, ?_⟩
    · (try dsimp only)
      rw [f129_l4, h11, if_neg hng]
    · (try dsimp only)
      rw [f254_l4, h48, if_neg hng]) zfu 0 (0, A) 0 (by omega) (by rw [zfu_eq]; omega) ⟨rfl, scrA_refl A, fun _ _ => rfl⟩
  have g1 : f129_l4 zfu 0 0 A = some (r1, A') := g1
  have g2 : f254_l4 B zfu 0 0 = some r2 := g2
  simp only at g3 g4 g5
  subst g3
  refine ⟨r1, A', B, ?_, ?_, g4, scrB_refl B, g5, fun _ _ => rfl⟩
  · unfold f129_thieves
    rw [g1]
    rfl
  · (try dsimp only)
    unfold f254_thieves
    rw [g2]
    rfl)
