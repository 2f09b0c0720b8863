def valN (b : Nat → Nat) (s : Nat) : Nat → Nat
  | 0 => 0
  | k + 1 => 10 * valN b s k + (b (s + k) - 48)
theorem valN_le {b : Nat → Nat} {s : Nat} : ∀ k, (∀ j, j < k → isDig (b (s + j)) = true) → valN b s k < 10 ^ k
  | 0, _ => by unfold valN; decide
  | k + 1, h => by
    have h1 := valN_le (b := b) (s := s) k (fun j hj => h j (by omega))
    have h2 := h k (by omega)
    unfold isDig at h2
    simp only [Bool.and_eq_true, decide_eq_true_eq] at h2
    unfold valN
    rw [Nat.pow_succ]
    omega
def atV (B B' : ZI) (i v : Nat) : Prop := B' 148 20 = znn i ∧ B' 148 23 = znn v ∧ (∀ o, o ≠ 148 → B' o = B o) ∧ ∀ j, j ≠ 20 → j ≠ 23 → B' 148 j = B 148 j
theorem onB_atV {B B' : ZI} {b : Nat → Nat} {t i v : Nat} (h : onB B b t) (g : atV B B' i v) : onB B' b t := ⟨by rw [g.2.2.2 19 (by decide) (by decide)]; exact h.1, fun j hj => by rw [g.2.2.1 158 (by decide)]; exact h.2 j hj⟩
theorem pow4 {k : Nat} (h : k ≤ 4) : 10 ^ k ≤ 10000 := by
  have hk : k = 0 ∨ k = 1 ∨ k = 2 ∨ k = 3 ∨ k = 4 := by omega
  rcases hk with rfl | rfl | rfl | rfl | rfl <;> decide
theorem digits_ref {B : ZI} {b : Nat → Nat} {t s : Nat} (hb : tapB b t) (h : onB B b t) (h22 : B 148 22 = znn s) : ∀ d i f B', i + d = t → d < f → s ≤ i → (∀ j, s ≤ j → j < i → isDig (b j) = true) → atV B B' i (valN b s (min (i - s) 4)) → ∃ B2, f157_l126 f B' = some B2 ∧ atV B B2 (runEnd isDig b t d i) (valN b s (min (runEnd isDig b t d i - s) 4))
  | 0, i, f, B', h1, h2, h3, h4, g => by
    obtain ⟨f, rfl⟩ : ∃ g, f = g + 1 := ⟨f - 1, by omega⟩
    have := hb.1
    refine ⟨B', ?_, g⟩
    rw [f157_l126, g.1, see_out hb (onB_atV h g) (by omega) (by omega), Option.bind_some, end_eq.2, Option.bind_some, if_pos rfl]
  | d + 1, i, f, B', h1, h2, h3, h4, g => by
    obtain ⟨f, rfl⟩ : ∃ g, f = g + 1 := ⟨f - 1, by omega⟩
    have hi : i < t := by omega
    have ht := hb.1
    have hx := hb.2 i hi
    have g22 : B' 148 22 = znn s := by rw [g.2.2.2 22 (by decide) (by decide)]; exact h22
    rw [f157_l126, g.1, see_in hb (onB_atV h g) hi, Option.bind_some, (digit_eq hx).2, Option.bind_some, runEnd]
    by_cases hl : isDig (b i) = true
    · rw [if_pos hl, if_neg (show ¬ (1 : Int32) = 0 by decide), if_pos (show i < t ∧ isDig (b i) = true from ⟨hi, hl⟩)]
      have hl' := hl
      unfold isDig at hl'
      simp only [Bool.and_eq_true, decide_eq_true_eq] at hl'
      have hv := valN_le (b := b) (s := s) (min (i - s) 4) (fun j hj => h4 (s + j) (by omega) (by omega))
      have hp := pow4 (k := min (i - s) 4) (by omega)
      have step : ∃ B2, ((if znn i < B' 148 22 + 4 then (some (znn (b i))).bind fun v19 => zlet (zs B' 148 23 ((((10 : Int32) * (B' 148 23)) + v19) - (48 : Int32))) fun (M20 : ZI) => some M20 else some B') : Option ZI) = some B2 ∧ atV B B2 i (valN b s (min (i + 1 - s) 4)) := by
        rw [g22, zl4, zn_add]
        by_cases hc : i < s + 4
        · rw [if_pos ((zn_lt (by omega) (by omega)).mpr hc), Option.bind_some, g.2.1, zlet_e]
          have e : (10 : Int32) * znn (valN b s (min (i - s) 4)) + znn (b i) - 48 = znn (valN b s (min (i + 1 - s) 4)) := by
            rw [zl10, zn_mul, zn_add, zl48, zn_sub (by omega), show min (i + 1 - s) 4 = (min (i - s) 4) + 1 by omega, valN, show s + min (i - s) 4 = i by omega]
            congr 1
            omega
          rw [e]
          exact ⟨_, rfl, by rw [zs_sm, if_neg (by decide)]; exact g.1, by rw [zs_sm, if_pos rfl], fun o ho => by rw [zs_df ho]; exact g.2.2.1 o ho, fun j q1 q2 => by rw [zs_sm, if_neg q2]; exact g.2.2.2 j q1 q2⟩
        · rw [if_neg (by rw [zn_lt (by omega) (by omega)]; exact hc)]
          refine ⟨B', rfl, ?_⟩
          rw [show min (i + 1 - s) 4 = min (i - s) 4 by omega]
          exact g
      obtain ⟨B2, e1, e2⟩ := step
      rw [e1, Option.bind_some, zlet_e, e2.1, zadd1]
      refine digits_ref hb h h22 d (i + 1) f _ (by omega) (by omega) (by omega) (fun j q1 q2 => ?_) ⟨by rw [zs_sm, if_pos rfl], by rw [zs_sm, if_neg (by decide)]; exact e2.2.1, fun o ho => by rw [zs_df ho]; exact e2.2.2.1 o ho, fun j q1 q2 => by rw [zs_sm, if_neg q1]; exact e2.2.2.2 j q1 q2⟩
      by_cases hji : j = i
      · rw [hji]; exact hl
      · exact h4 j q1 (by omega)
    · rw [if_neg hl, if_pos rfl, if_neg (fun hc => hl hc.2)]
      exact ⟨B', rfl, g⟩
/-- the class's number, where it has four digits at most -/
theorem num_cls {M : ZI} {b : Nat → Nat} {t s e : Nat} (hb : tapB b t) (h : onA M b t) (hse : s ≤ e) (he : e ≤ t) (h4 : e ≤ s + 4) (hd : ∀ j, s ≤ j → j < e → isDig (b j) = true) : f66_numberAt 119 (znn s) (znn e) M = some (znn (valN b s (e - s))) := by
  have ht := hb.1
  obtain ⟨r, g1, rfl⟩ := zloop (fun f (a : Int32) c => f66_l5 119 (znn e) M f a c) e (fun i a => s ≤ i ∧ a = znn (valN b s (i - s))) (fun a => a = znn (valN b s (e - s))) (fun f i a hi ha => by
    obtain ⟨hsi, rfl⟩ := ha
    left
    (try dsimp only)
    have hl := hd i hsi hi
    unfold isDig at hl
    simp only [Bool.and_eq_true, decide_eq_true_eq] at hl
    have hx := hb.2 i (by omega)
    have hv := valN_le (b := b) (s := s) (i - s) (fun j hj => hd (s + j) (by omega) (by omega))
    have hp := pow4 (k := i - s) (by omega)
    rw [f66_l5, if_pos ((zn_lt (by omega) (by omega)).mpr hi), if_pos (show znn i < 400 by rw [zl400, zn_lt (by omega) (by decide)]; omega), if_pos ((zn_zin (by omega)).mpr (by omega)), zn_zi (by omega), zlet_e, show M (119 + 1) i = znn (b i) from h.2 i (by omega), zadd1, zl10, zn_mul, zn_add, zl48, zn_sub (by omega)]
    refine ⟨_, ⟨by omega, ?_⟩, rfl⟩
    rw [show i + 1 - s = (i - s) + 1 by omega, valN, show s + (i - s) = i by omega]
    congr 1
    omega) (fun f a ha => by
    refine ⟨a, ha.2, ?_⟩
    (try dsimp only)
    rw [f66_l5, if_neg (by rw [zn_lt (by omega) (by omega)]; omega)]) zfu s 0 hse (by rw [zfu_eq]; omega) ⟨Nat.le_refl _, by rw [Nat.sub_self]; rfl⟩
  have g1 : f66_l5 119 (znn e) M zfu 0 (znn s) = some _ := g1
  unfold f66_numberAt
  rw [g1]
  rfl
