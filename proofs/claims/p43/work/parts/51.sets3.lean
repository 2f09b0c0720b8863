-- ===== sets of PEOPLE put to THE COUNCIL: does, fewest, hinge, doers; clique, way =====
theorem zn_surj (x : Int32) : ∃ j, x = znn j := ⟨x.toBitVec.toNat, Int32.toBitVec_inj.1 (by
  show x.toBitVec = BitVec.ofNat 32 x.toBitVec.toNat
  simp)⟩
theorem pow_1024 {n : Nat} (h : n ≤ 10) : 2 ^ n ≤ 1024 ∧ 1 ≤ 2 ^ n := ⟨Nat.pow_le_pow_right (n := 2) (by decide) h, Nat.two_pow_pos n⟩
theorem all_zn {n : Nat} (h : n ≤ 10) : zshl 1 (znn n) - 1 = znn (2 ^ n - 1) := by
  have := pow_1024 h
  rw [zl1, zn_shl (by omega), zn_sub (by omega)]
theorem all_cls {A B : ZI} {n k c b : Nat} (h0 : Inv5 A B n k c b) : f98_everyone 1 A = some (znn (2 ^ n - 1)) := by
  unfold f98_everyone
  rw [h0.1.1.1.1, h0.2.1.1.2.1, all_zn h0.2.1.1.1]
theorem all_ref {B : ZI} {n : Nat} (hn : n ≤ 10) (h48 : B 149 48 = znn n) : f234_all B = some (znn (2 ^ n - 1)) := by
  unfold f234_all
  rw [h48, all_zn hn]
theorem sync_does (x : Int32) : sync (f97_does x) (f233_does x) := sync_q (by
  intro A B n k c b h0
  have hn10 := h0.2.1.1.1
  have hp := pow_1024 hn10
  obtain ⟨j, rfl⟩ := zn_surj x
  have hS : j &&& (2 ^ n - 1) < 1024 := Nat.lt_of_le_of_lt Nat.and_le_right (by omega)
  obtain ⟨A', a1, a2⟩ := met_eq (M := A) hS h0.2.1.2.2.2.1 h0.1.2.2.2.1
  obtain ⟨B', b1, b2⟩ := sat_eq (M := B) hS h0.2.1.2.2.2.1 rfl
  have hz : zbl (sSat (B 149) (j &&& (2 ^ n - 1))) = true := by
    rcases sSat_01 h0.2.1.2.2.2.1 hS with h | h <;> rw [h] <;> rfl
  refine q_ask (v := sSat (B 149) (j &&& (2 ^ n - 1))) ⟨A', ?_, fun o _ _ _ q4 => a2 o q4⟩ ⟨B', ?_, fun o q1 _ => b2 o q1⟩
  · unfold f97_does
    rw [all_cls h0]
    simp only [Option.bind_some]
    rw [zn_and, a1]
    simp only [Option.bind_some]
    rw [if_pos hz]
  · unfold f233_does
    rw [all_ref hn10 h0.2.1.1.2.1]
    simp only [Option.bind_some]
    rw [zn_and, b1]
    simp only [Option.bind_some]
    rw [if_pos hz])
theorem fill_cls {A B : ZI} {n k c b : Nat} (h0 : Inv5 A B n k c b) : ∃ A', f103_fillDoing A = some A' ∧ (∀ s, s < 2 ^ n → A' 147 s = sSat (B 149) s) ∧ ∀ o, o ≠ 33 → o ≠ 147 → A' o = A o := by
  have hn10 := h0.2.1.1.1
  have hp := pow_1024 hn10
  have hru := h0.2.1.2.2.2.1
  obtain ⟨m, h1, h2, h3⟩ := zloop (fun f (m : ZI) c => f103_l10 (znn (2 ^ n - 1)) f c m) (2 ^ n) (fun i m => (∀ s, s < i → m 147 s = sSat (B 149) s) ∧ ∀ o, o ≠ 33 → o ≠ 147 → m o = A o) (fun m => (∀ s, s < 2 ^ n → m 147 s = sSat (B 149) s) ∧ ∀ o, o ≠ 33 → o ≠ 147 → m o = A o) (fun f i m hi hm => by
    obtain ⟨g1, g2⟩ := hm
    left
    (try dsimp only)
    obtain ⟨m', a1, a2⟩ := met_eq (M := m) (show i < 1024 by omega) hru (ruleIs_of h0.1.2.2.2.1 (fun o q1 q2 => g2 o (by omega) (by omega)))
    rw [f103_l10, if_neg (by rw [zn_lt (by omega) (by omega)]; omega), if_pos (show znn i < 1024 by rw [zl1024, zn_lt (by omega) (by decide)]; omega), a1, zadd1]
    simp only [Option.bind_some, zlet]
    rw [if_pos ((zn_zin (by omega)).mpr (by omega)), zn_zi (by omega)]
    have hzb : zbo (sSat (B 149) i) = sSat (B 149) i := by
      rcases sSat_01 hru (show i < 1024 by omega) with h | h <;> rw [h] <;> decide
    rw [hzb]
    refine ⟨_, ⟨fun s hs => ?_, fun o q1 q2 => ?_⟩, rfl⟩
    · rw [zs_sm]
      by_cases hsi : s = i
      · rw [if_pos hsi, hsi]
      · rw [if_neg hsi, a2 147 (by decide)]; exact g1 s (by omega)
    · rw [zs_df q2, a2 o q1]; exact g2 o q1 q2) (fun f m hm => by
    refine ⟨m, hm, ?_⟩
    (try dsimp only)
    rw [f103_l10, if_pos (by rw [zn_lt (by omega) (by omega)]; omega)]) zfu 0 A (by omega) (by rw [zfu_eq]; omega) ⟨fun s hs => by omega, fun _ _ _ => rfl⟩
  have h1 : f103_l10 (znn (2 ^ n - 1)) zfu 0 A = some m := h1
  refine ⟨m, ?_, h2, h3⟩
  unfold f103_fillDoing
  rw [all_cls h0]
  simp only [Option.bind_some]
  rw [h1]
  rfl
theorem fill_scr {A A' : ZI} (h : ∀ o, o ≠ 33 → o ≠ 147 → A' o = A o) : scrA A A' := scrA_of (fun o _ q2 _ _ _ q6 _ => h o q2 q6)
theorem sync_fewest (x y : Int32) : sync (f102_fewest x y) (f242_fewest x y) := sync_q (by
  intro A B n k c b h0
  have hn10 := h0.2.1.1.1
  have h48 := h0.2.1.1.2.1
  have hp := pow_1024 hn10
  have hru := h0.2.1.2.2.2.1
  have same : ∀ v, f102_fewest x y A = some (v, A) → f242_fewest x y B = some (v, B) → ∃ v A' B', f102_fewest x y A = some (v, A') ∧ f242_fewest x y B = some (v, B') ∧ scrA A A' ∧ scrB B B' ∧ (∀ o, 148 ≤ o → A' o = A o) ∧ ∀ o, o < 148 → B' o = B o := fun v e1 e2 => ⟨v, A, B, e1, e2, scrA_refl A, scrB_refl B, fun _ _ => rfl, fun _ _ => rfl⟩
  rcases has_eq h0 x with ⟨p, hpn, rfl, e1, e2⟩ | ⟨e1, e2⟩
  case inr => exact same (-1) (by unfold f102_fewest; rw [e1]; rfl) (by unfold f242_fewest; rw [e2]; rfl)
  rcases within_ex (x := y) (lo := 0) (hi := 1) (by decide) (by decide) with ⟨u, -, hu, rfl, e3, e4⟩ | ⟨e3, e4⟩
  case inr => exact same (-1) (by unfold f102_fewest; rw [e1, show f13_within y 0 1 = some 0 from e3]; rfl) (by unfold f242_fewest; rw [e2, show f149_isIn y 0 1 = some 0 from e4]; rfl)
  obtain ⟨A1, a1, a2, a3⟩ := fill_cls h0
  have hI1 : Inv5 A1 B n k c b := Inv5_scr h0 (fill_scr a3) rfl
  obtain ⟨r1, ⟨r2, B2⟩, g1, g2, g3, g4, g5⟩ := zpair (fun f (a : Int32) c => f102_l40 (znn p) A1 (znn (2 ^ n - 1)) f a c) (fun f (d : Int32 × ZI) c => f242_l24 (znn p) f d.1 c d.2) (2 ^ n) (fun i a d => a = d.1 ∧ (a = -1 ∨ ∃ s, s < 1024 ∧ a = znn s) ∧ ∀ o, o ≠ 159 → d.2 o = B o) (fun a d => a = d.1 ∧ (a = -1 ∨ ∃ s, s < 1024 ∧ a = znn s) ∧ ∀ o, o ≠ 159 → d.2 o = B o) (fun f i a d hi had => by
    obtain ⟨d1, B3⟩ := d
    obtain ⟨rfl, hs, g⟩ := had
    simp only at hs g
    left
    (try dsimp only)
    have e48 : B3 149 48 = znn n := by rw [g 149 (by decide)]; exact h48
    have hz : zin (znn i) 1024 = true := (zn_zin (by omega)).mpr (by omega)
    have hng : ¬ znn (2 ^ n - 1) < znn i := by rw [zn_lt (by omega) (by omega)]; omega
    have hlt1 : znn i < 1024 := by rw [zl1024, zn_lt (by omega) (by decide)]; omega
    have h10 : ¬ (1 : Int32) = 0 := by decide
    obtain ⟨B4, b1, b2⟩ := sat_eq (M := B3) (show i < 1024 by omega) hru (g 149 (by decide))
    have gg : ∀ o, o ≠ 159 → B4 o = B o := fun o ho => (b2 o ho).trans (g o ho)
    rw [f102_l40, f242_l24, all_ref hn10 e48, if_neg hng, if_pos hlt1, if_pos hz, zn_zi (by omega), a2 i hi, isIn_zn (by omega) (by omega), zbit (by omega) (by omega), b1, zadd1]
    simp only [Option.bind_some]
    rw [if_neg hng]
    have hbi := bitCount_zn (s := i) (by omega)
    have hci := count_zn (s := i) (by omega)
    rcases sSat_01 hru (show i < 1024 by omega) with h | h
    · rw [h]
      by_cases hb : i.testBit p = true
      · simp only [if_pos hb, if_neg h10, ↓reduceIte]
        exact ⟨a, (a, B3), ⟨rfl, hs, g⟩, rfl, rfl⟩
      · simp only [if_neg hb, ↓reduceIte]
        exact ⟨a, (a, B4), ⟨rfl, hs, gg⟩, rfl, rfl⟩
    · rw [h]
      by_cases hb : i.testBit p = true
      · simp only [if_pos hb, if_neg h10]
        exact ⟨a, (a, B3), ⟨rfl, hs, g⟩, rfl, rfl⟩
      · simp only [if_neg hb, if_neg h10, ↓reduceIte]
        rcases hs with rfl | ⟨s, hs, rfl⟩
        · simp only [↓reduceIte]
          exact ⟨znn i, (znn i, B4), ⟨rfl, Or.inr ⟨i, by omega, rfl⟩, gg⟩, rfl, rfl⟩
        · have hsn : ¬ znn s = -1 := zn_ne_neg (by omega)
          rw [if_neg hsn, if_neg hsn, hbi, hci, bitCount_zn hs, count_zn hs]
          simp only [Option.bind_some]
          by_cases hlt : znn (pop i) < znn (pop s)
          · simp only [if_pos hlt]
            exact ⟨znn i, (znn i, B4), ⟨rfl, Or.inr ⟨i, by omega, rfl⟩, gg⟩, rfl, rfl⟩
          · simp only [if_neg hlt]
            exact ⟨znn s, (znn s, B4), ⟨rfl, Or.inr ⟨s, hs, rfl⟩, gg⟩, rfl, rfl⟩) (fun f a d had => by
    obtain ⟨d1, B3⟩ := d
    obtain ⟨rfl, hs, g⟩ := had
    simp only at hs g
    have e48 : B3 149 48 = znn n := by rw [g 149 (by decide)]; exact h48
    have hyg : znn (2 ^ n - 1) < znn (2 ^ n) := by rw [zn_lt (by omega) (by omega)]; omega
    refine ⟨a, (a, B3), ⟨rfl, hs, g⟩, ?_, ?_⟩
    · (try dsimp only)
      rw [f102_l40, if_pos hyg]
    · (try dsimp only)
      rw [f242_l24, all_ref hn10 e48]
      simp only [Option.bind_some]
      rw [if_pos hyg]) zfu 0 (-1) (-1, B) (by omega) (by rw [zfu_eq]; omega) ⟨rfl, Or.inl rfl, fun _ _ => rfl⟩
  simp only at g3 g5
  subst g3
  have g1 : f102_l40 (znn p) A1 (znn (2 ^ n - 1)) zfu (-1) 0 = some r1 := g1
  have g2 : f242_l24 (znn p) zfu (-1) 0 B = some (r1, B2) := g2
  have hu2 : u = 0 ∨ u = 1 := by omega
  have fin : ∀ v, (f102_fewest (znn p) (znn u) A = some (v, A1)) → f242_fewest (znn p) (znn u) B = some (v, B2) → ∃ v A' B', f102_fewest (znn p) (znn u) A = some (v, A') ∧ f242_fewest (znn p) (znn u) B = some (v, B') ∧ scrA A A' ∧ scrB B B' ∧ (∀ o, 148 ≤ o → A' o = A o) ∧ ∀ o, o < 148 → B' o = B o := fun v h1 h2 => ⟨v, A1, B2, h1, h2, fill_scr a3, scrB_of (fun o _ q2 _ _ => g5 o q2), fun o ho => a3 o (by omega) (by omega), fun o ho => g5 o (by omega)⟩
  have cls : f102_fewest (znn p) (znn u) A = (if r1 = (-1 : Int32) then some ((-1 : Int32), A1) else (if znn u = 0 then (f28_bitCount r1).bind fun v12 => some (v12, A1) else some (r1, A1))) := by
    unfold f102_fewest
    rw [e1, show f13_within (znn u) 0 1 = some 1 from e3]
    simp only [Option.bind_some]
    rw [if_neg (by decide), if_neg (by decide), a1]
    simp only [Option.bind_some]
    rw [all_cls hI1]
    simp only [Option.bind_some]
    rw [g1]
    rfl
  have ref : f242_fewest (znn p) (znn u) B = (if r1 = (-1 : Int32) then some (r1, B2) else (if znn u = (1 : Int32) then some (r1, B2) else (f209_count r1).bind fun v14 => some (v14, B2))) := by
    unfold f242_fewest
    rw [e2, show f149_isIn (znn u) 0 1 = some 1 from e4]
    simp only [Option.bind_some]
    rw [if_neg (by decide), if_neg (by decide), g2]
    rfl
  rcases g4 with rfl | ⟨s, hs, rfl⟩
  · exact fin (-1) (by rw [cls, if_pos rfl]) (by rw [ref, if_pos rfl])
  · rw [if_neg (zn_ne_neg (by omega))] at cls ref
    rcases hu2 with rfl | rfl
    · rw [if_pos (show znn 0 = 0 from rfl), bitCount_zn hs] at cls
      rw [if_neg (show ¬ znn 0 = 1 by decide), count_zn hs] at ref
      exact fin _ cls ref
    · rw [if_neg (show ¬ znn 1 = 0 by decide)] at cls
      rw [if_pos (show znn 1 = 1 from rfl)] at ref
      exact fin _ cls ref)
-- counting
def cntN (f : Nat → Bool) : Nat → Nat → Nat
  | _, 0 => 0
  | a, d + 1 => cntN f a d + (if f (a + d) = true then 1 else 0)
theorem cntN_add (f : Nat → Bool) (a : Nat) : ∀ d e, cntN f a (d + e) = cntN f a d + cntN f (a + d) e
  | d, 0 => rfl
  | d, e + 1 => by
    have e1 : cntN f a (d + (e + 1)) = cntN f a (d + e) + (if f (a + (d + e)) = true then 1 else 0) := rfl
    have e2 : cntN f (a + d) (e + 1) = cntN f (a + d) e + (if f (a + d + e) = true then 1 else 0) := rfl
    rw [e1, e2, cntN_add f a d e, Nat.add_assoc a d e, Nat.add_assoc]
theorem cntN_le (f : Nat → Bool) (a : Nat) : ∀ d, cntN f a d ≤ d
  | 0 => Nat.le_refl _
  | d + 1 => by
    have := cntN_le f a d
    unfold cntN
    split <;> omega
theorem cntN_eq {f g : Nat → Bool} {a e : Nat} : ∀ d, (∀ j, j < d → f (a + j) = g (e + j)) → cntN f a d = cntN g e d
  | 0, _ => rfl
  | d + 1, h => by
    unfold cntN
    rw [cntN_eq d (fun j hj => h j (by omega)), h d (by omega)]
theorem cntN_no {f : Nat → Bool} {a : Nat} : ∀ d, (∀ j, j < d → f (a + j) = false) → cntN f a d = 0
  | 0, _ => rfl
  | d + 1, h => by
    unfold cntN
    rw [cntN_no d (fun j hj => h j (by omega)), h d (by omega)]
    rfl
theorem tb_split {p t j : Nat} (hj : j < 2 ^ p) : (2 ^ (p + 1) * t + j).testBit p = false ∧ (2 ^ (p + 1) * t + 2 ^ p + j).testBit p = true ∧ (2 ^ (p + 1) * t + 2 ^ p + j) ^^^ 2 ^ p = 2 ^ (p + 1) * t + j ∧ (2 ^ (p + 1) * t + j) ||| 2 ^ p = 2 ^ (p + 1) * t + 2 ^ p + j := by
  have h1 : (2 ^ (p + 1) * t + j).testBit p = false := by
    rw [Nat.testBit_eq_decide_div_mod_eq, show 2 ^ (p + 1) * t + j = 2 ^ p * (2 * t) + j by rw [Nat.pow_succ, Nat.mul_assoc], Nat.mul_add_div (Nat.two_pow_pos p), Nat.div_eq_of_lt hj]
    simp
  have h2 : (2 ^ (p + 1) * t + j) ||| 2 ^ p = 2 ^ (p + 1) * t + 2 ^ p + j := by
    have e : 2 ^ (p + 1) * t + j = 2 ^ p * (2 * t) + j := by rw [Nat.pow_succ, Nat.mul_assoc]
    have e2 : 2 ^ (p + 1) * t + 2 ^ p + j = 2 ^ p * (2 * t + 1) + j := by rw [Nat.pow_succ, Nat.mul_assoc, Nat.mul_add]; omega
    rw [e, e2]
    apply Nat.eq_of_testBit_eq
    intro i
    rw [Nat.testBit_or, Nat.testBit_two_pow, Nat.testBit_two_pow_mul_add _ hj, Nat.testBit_two_pow_mul_add _ hj]
    by_cases hip : i < p
    · rw [if_pos hip, if_pos hip]
      have : ¬ p = i := by omega
      simp [this]
    · rw [if_neg hip, if_neg hip]
      by_cases hip2 : i = p
      · subst hip2
        simp
      · have h3 : ¬ p = i := fun h => hip2 h.symm
        obtain ⟨q, rfl⟩ : ∃ q, i = p + (q + 1) := ⟨i - p - 1, by omega⟩
        rw [show p + (q + 1) - p = q + 1 by omega, Nat.testBit_succ, Nat.testBit_succ, show 2 * t / 2 = t by omega, show (2 * t + 1) / 2 = t by omega]
        simp
  have h3 : (2 ^ (p + 1) * t + 2 ^ p + j).testBit p = true := by
    rw [← h2, Nat.testBit_or, Nat.testBit_two_pow]
    simp
  refine ⟨h1, h3, ?_, h2⟩
  rw [← h2]
  apply Nat.eq_of_testBit_eq
  intro i
  rw [Nat.testBit_xor, Nat.testBit_or, Nat.testBit_two_pow]
  by_cases hip : p = i
  · subst hip
    rw [h1]
    simp
  · simp [hip]
theorem cnt_hinge {f g : Nat → Bool} {p : Nat} (hf : ∀ s, s.testBit p = false → f s = false) (hg : ∀ s, s.testBit p = true → g s = false) (hfg : ∀ s, s.testBit p = true → f s = g (s ^^^ 2 ^ p)) : ∀ m, cntN f 0 (2 ^ (p + 1) * m) = cntN g 0 (2 ^ (p + 1) * m)
  | 0 => rfl
  | m + 1 => by
    have hX : ∀ h : Nat → Bool, cntN h 0 (2 ^ (p + 1) * (m + 1)) = cntN h 0 (2 ^ (p + 1) * m) + (cntN h (2 ^ (p + 1) * m) (2 ^ p) + cntN h (2 ^ (p + 1) * m + 2 ^ p) (2 ^ p)) := fun h => by
      rw [show 2 ^ (p + 1) * (m + 1) = 2 ^ (p + 1) * m + (2 ^ p + 2 ^ p) by rw [Nat.mul_add, Nat.mul_one, Nat.pow_succ]; omega, cntN_add, Nat.zero_add, cntN_add]
    have e1 : cntN f (2 ^ (p + 1) * m) (2 ^ p) = 0 := cntN_no (2 ^ p) (fun j hj => hf _ (tb_split hj).1)
    have e2 : cntN g (2 ^ (p + 1) * m + 2 ^ p) (2 ^ p) = 0 := cntN_no (2 ^ p) (fun j hj => hg _ (tb_split hj).2.1)
    have e3 : cntN f (2 ^ (p + 1) * m + 2 ^ p) (2 ^ p) = cntN g (2 ^ (p + 1) * m) (2 ^ p) := cntN_eq (2 ^ p) (fun j hj => by
      obtain ⟨s1, s2, s3, s4⟩ := tb_split (p := p) (t := m) hj
      rw [hfg _ s2, s3])
    rw [hX f, hX g, e1, e2, e3, cnt_hinge hf hg hfg m]
    omega
theorem sync_hinge (x : Int32) : sync (f104_hinge x) (f245_hinge x) := sync_q (by
  intro A B n k c b h0
  have hn10 := h0.2.1.1.1
  have h48 := h0.2.1.1.2.1
  have hp := pow_1024 hn10
  have hru := h0.2.1.2.2.2.1
  rcases has_eq h0 x with ⟨p, hpn, rfl, e1, e2⟩ | ⟨e1, e2⟩
  case inr => exact ⟨-1, A, B, by unfold f104_hinge; rw [e1]; rfl, by unfold f245_hinge; rw [e2]; rfl, scrA_refl A, scrB_refl B, fun _ _ => rfl, fun _ _ => rfl⟩
  obtain ⟨A1, a1, a2, a3⟩ := fill_cls h0
  have hI1 : Inv5 A1 B n k c b := Inv5_scr h0 (fill_scr a3) rfl
  have hpow : 2 ^ p < 1024 := Nat.lt_of_lt_of_le (Nat.pow_lt_pow_right (by decide) hpn) hp.1
  have hpn2 : 2 ^ p < 2 ^ n := Nat.pow_lt_pow_right (by decide) hpn
  let fc : Nat → Bool := fun s => s.testBit p && decide (sSat (B 149) s = 1) && decide (sSat (B 149) (s ^^^ 2 ^ p) = 0)
  let fr : Nat → Bool := fun s => !s.testBit p && decide (sSat (B 149) s = 0) && decide (sSat (B 149) (s ||| 2 ^ p) = 1)
  have sh : zshl 1 (znn p) = znn (2 ^ p) := by rw [zl1]; exact zn_shl (by omega)
  obtain ⟨r1, g1, g1'⟩ := zloop (fun f (a : Int32) c => f104_l30 (znn p) A1 (znn (2 ^ n - 1)) f a c) (2 ^ n) (fun i a => a = znn (cntN fc 0 i)) (fun a => a = znn (cntN fc 0 (2 ^ n))) (fun f i a hi ha => by
    subst ha
    left
    refine ⟨_, rfl, ?_⟩
    (try dsimp only)
    have hz : zin (znn i) 1024 = true := (zn_zin (by omega)).mpr (by omega)
    have hx : i ^^^ 2 ^ p < 2 ^ n := Nat.xor_lt_two_pow hi hpn2
    have hz2 : zin (znn (i ^^^ 2 ^ p)) 1024 = true := (zn_zin (by omega)).mpr (by omega)
    have es : cntN fc 0 (i + 1) = cntN fc 0 i + (if fc i = true then 1 else 0) := by show cntN fc 0 i + (if fc (0 + i) = true then 1 else 0) = _; rw [Nat.zero_add]
    rw [f104_l30, if_neg (by rw [zn_lt (by omega) (by omega)]; omega), if_pos (show znn i < 1024 by rw [zl1024, zn_lt (by omega) (by decide)]; omega), isIn_zn (by omega) (by omega), if_pos hz, zn_zi (by omega), a2 i hi, sh, zn_xor, if_pos hz2, zn_zi (by omega), a2 _ hx, zadd1, es]
    simp only [Option.bind_some]
    have e01 := sSat_01 hru (show i < 1024 by omega)
    have e01' := sSat_01 hru (show i ^^^ 2 ^ p < 1024 by omega)
    by_cases hb : i.testBit p = true
    · rw [if_pos hb, if_neg (by decide)]
      rcases e01 with h | h
      · have : fc i = false := by simp [fc, h]
        rw [h, if_pos rfl, this]; rfl
      · rw [h, if_neg (by decide)]
        rcases e01' with h' | h'
        · have : fc i = true := by simp [fc, hb, h, h']
          rw [h', if_pos rfl, this, if_pos rfl, zadd1]
        · have : fc i = false := by simp [fc, h']
          rw [h', if_neg (by decide), this]; rfl
    · have : fc i = false := by simp [fc, hb]
      rw [if_neg hb, if_pos rfl, this]; rfl) (fun f a ha => by
    subst ha
    refine ⟨_, rfl, ?_⟩
    (try dsimp only)
    rw [f104_l30, if_pos (by rw [zn_lt (by omega) (by omega)]; omega)]) zfu 0 0 (by omega) (by rw [zfu_eq]; omega) rfl
  obtain ⟨⟨r2, B2⟩, g2, g2', g3⟩ := zloop (fun f (d : Int32 × ZI) c => f245_l14 (znn p) f d.1 c d.2) (2 ^ n) (fun i d => d.1 = znn (cntN fr 0 i) ∧ ∀ o, o ≠ 159 → d.2 o = B o) (fun d => d.1 = znn (cntN fr 0 (2 ^ n)) ∧ ∀ o, o ≠ 159 → d.2 o = B o) (fun f i d hi hd => by
    obtain ⟨d1, B3⟩ := d
    obtain ⟨rfl, g⟩ := hd
    simp only at g
    left
    (try dsimp only)
    have e48 : B3 149 48 = znn n := by rw [g 149 (by decide)]; exact h48
    have ho : i ||| 2 ^ p < 2 ^ n := Nat.or_lt_two_pow hi hpn2
    obtain ⟨B4, b1, b2⟩ := sat_eq (M := B3) (show i < 1024 by omega) hru (g 149 (by decide))
    have gg : ∀ o, o ≠ 159 → B4 o = B o := fun o ho => (b2 o ho).trans (g o ho)
    obtain ⟨B5, b3, b4⟩ := sat_eq (M := B4) (show i ||| 2 ^ p < 1024 by omega) hru (gg 149 (by decide))
    have gg5 : ∀ o, o ≠ 159 → B5 o = B o := fun o ho => (b4 o ho).trans (gg o ho)
    have es : cntN fr 0 (i + 1) = cntN fr 0 i + (if fr i = true then 1 else 0) := by show cntN fr 0 i + (if fr (0 + i) = true then 1 else 0) = _; rw [Nat.zero_add]
    rw [f245_l14, all_ref hn10 e48]
    simp only [Option.bind_some]
    rw [if_neg (by rw [zn_lt (by omega) (by omega)]; omega), zbit (by omega) (by omega), b1, sh, zn_or, zadd1]
    simp only [Option.bind_some, zlet]
    rw [b3]
    simp only [Option.bind_some, Int32.add_zero]
    have e01 := sSat_01 hru (show i < 1024 by omega)
    have e01' := sSat_01 hru (show i ||| 2 ^ p < 1024 by omega)
    by_cases hb : i.testBit p = true
    · have : fr i = false := by simp [fr, hb]
      rw [if_pos hb, if_neg (by decide)]
      exact ⟨(znn (cntN fr 0 (i + 1)), B3), ⟨rfl, g⟩, by rw [es, this]; rfl⟩
    · rw [if_neg hb, if_pos rfl]
      rcases e01 with h | h
      · rw [h, if_pos rfl]
        rcases e01' with h' | h'
        · have : fr i = false := by simp [fr, h']
          rw [h', if_pos rfl]
          exact ⟨(znn (cntN fr 0 (i + 1)), B5), ⟨rfl, gg5⟩, by rw [es, this]; rfl⟩
        · have : fr i = true := by simp [fr, hb, h, h']
          rw [h', if_neg (by decide), zadd1]
          exact ⟨(znn (cntN fr 0 (i + 1)), B5), ⟨rfl, gg5⟩, by rw [es, this]; rfl⟩
      · have : fr i = false := by simp [fr, h]
        rw [h, if_neg (by decide)]
        exact ⟨(znn (cntN fr 0 (i + 1)), B4), ⟨rfl, gg⟩, by rw [es, this]; rfl⟩) (fun f d hd => by
    obtain ⟨d1, B3⟩ := d
    obtain ⟨rfl, g⟩ := hd
    simp only at g
    have e48 : B3 149 48 = znn n := by rw [g 149 (by decide)]; exact h48
    refine ⟨(znn (cntN fr 0 (2 ^ n)), B3), ⟨rfl, g⟩, ?_⟩
    (try dsimp only)
    rw [f245_l14, all_ref hn10 e48]
    simp only [Option.bind_some]
    rw [if_pos (by rw [zn_lt (by omega) (by omega)]; omega)]) zfu 0 (0, B) (by omega) (by rw [zfu_eq]; omega) ⟨rfl, fun _ _ => rfl⟩
  simp only at g2' g3
  have hcnt : cntN fc 0 (2 ^ n) = cntN fr 0 (2 ^ n) := by
    have := cnt_hinge (f := fc) (g := fr) (p := p) (fun s hs => by simp [fc, hs]) (fun s hs => by simp [fr, hs]) (fun s hs => by
      have e1 : (s ^^^ 2 ^ p).testBit p = false := by rw [Nat.testBit_xor, hs, Nat.testBit_two_pow]; simp
      have e2 : (s ^^^ 2 ^ p) ||| 2 ^ p = s := by
        apply Nat.eq_of_testBit_eq
        intro i
        rw [Nat.testBit_or, Nat.testBit_xor, Nat.testBit_two_pow]
        by_cases hip : p = i
        · subst hip; rw [hs]; simp
        · simp [hip]
      simp only [fc, fr, hs, e1, e2, Bool.true_and, Bool.not_false]
      exact Bool.and_comm _ _) (2 ^ (n - (p + 1)))
    rwa [← Nat.pow_add, show p + 1 + (n - (p + 1)) = n by omega] at this
  have g1 : f104_l30 (znn p) A1 (znn (2 ^ n - 1)) zfu 0 0 = some r1 := g1
  have g2 : f245_l14 (znn p) zfu 0 0 B = some (r2, B2) := g2
  refine ⟨r1, A1, B2, ?_, ?_, fill_scr a3, scrB_of (fun o _ q2 _ _ => g3 o q2), fun o ho => a3 o (by omega) (by omega), fun o ho => g3 o (by omega)⟩
  · unfold f104_hinge
    rw [e1]
    simp only [Option.bind_some]
    rw [if_neg (by decide), a1]
    simp only [Option.bind_some]
    rw [all_cls hI1]
    simp only [Option.bind_some]
    rw [g1]
    rfl
  · unfold f245_hinge
    rw [e2]
    simp only [Option.bind_some]
    rw [if_neg (by decide), g2, g1', g2', hcnt]
    rfl)
