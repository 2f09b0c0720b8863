def isBlk (x : Nat) : Bool := decide (x = 32) || decide (x = 10)
/-- a memory of the reference that stands at place i -/
def atB (B B' : ZI) (i : Nat) : Prop := B' 148 20 = znn i ∧ (∀ o, o ≠ 148 → B' o = B o) ∧ ∀ j, j ≠ 20 → B' 148 j = B 148 j
theorem onB_at {B B' : ZI} {b : Nat → Nat} {t i : Nat} (h : onB B b t) (g : atB B B' i) : onB B' b t := ⟨by rw [g.2.2 19 (by decide)]; exact h.1, fun j hj => by rw [g.2.1 158 (by decide)]; exact h.2 j hj⟩
theorem at_step {B B' : ZI} {i : Nat} (g : atB B B' i) : atB B (zs B' 148 20 (znn (i + 1))) (i + 1) := ⟨by rw [zs_sm, if_pos rfl], fun o ho => by rw [zs_df ho]; exact g.2.1 o ho, fun j hj => by rw [zs_sm, if_neg hj]; exact g.2.2 j hj⟩
theorem letters_ref {B : ZI} {b : Nat → Nat} {t : Nat} (hb : tapB b t) (h : onB B b t) : ∀ d i f B', i + d = t → d < f → atB B B' i → ∃ B2, f157_l76 f B' = some B2 ∧ atB B B2 (runEnd isLet b t d i)
  | 0, i, f, B', h1, h2, g => by
    obtain ⟨f, rfl⟩ : ∃ g, f = g + 1 := ⟨f - 1, by omega⟩
    have := hb.1
    refine ⟨B', ?_, g⟩
    rw [f157_l76, g.1, see_out hb (onB_at h g) (by omega) (by omega), Option.bind_some, end_eq.1, Option.bind_some, if_pos rfl]
  | d + 1, i, f, B', h1, h2, g => by
    obtain ⟨f, rfl⟩ : ∃ g, f = g + 1 := ⟨f - 1, by omega⟩
    have hi : i < t := by omega
    rw [f157_l76, g.1, see_in hb (onB_at h g) hi, Option.bind_some, (letter_eq (hb.2 i hi)).2, Option.bind_some, runEnd]
    by_cases hl : isLet (b i) = true
    · rw [if_pos hl, if_neg (by decide), zlet_e, zadd1, if_pos ⟨hi, hl⟩]
      exact letters_ref hb h d (i + 1) f _ (by omega) (by omega) (at_step g)
    · rw [if_neg hl, if_pos rfl, if_neg (fun hc => hl hc.2)]
      exact ⟨B', rfl, g⟩
theorem blanks_ref {B : ZI} {b : Nat → Nat} {t : Nat} (hb : tapB b t) (h : onB B b t) : ∀ d i f B', i + d = t → d < f → atB B B' i → ∃ B2, f157_l0 f B' = some B2 ∧ atB B B2 (runEnd isBlk b t d i)
  | 0, i, f, B', h1, h2, g => by
    obtain ⟨f, rfl⟩ : ∃ g, f = g + 1 := ⟨f - 1, by omega⟩
    have := hb.1
    refine ⟨B', ?_, g⟩
    rw [f157_l0, g.1, see_out hb (onB_at h g) (by omega) (by omega), Option.bind_some, zlet_e, if_neg (by decide), Option.bind_some, if_neg (by decide)]
  | d + 1, i, f, B', h1, h2, g => by
    obtain ⟨f, rfl⟩ : ∃ g, f = g + 1 := ⟨f - 1, by omega⟩
    have hi : i < t := by omega
    have hx := hb.2 i hi
    rw [f157_l0, g.1, see_in hb (onB_at h g) hi, Option.bind_some, zlet_e, Option.bind_some, runEnd, zadd1, zlet_e]
    have ih := blanks_ref hb h d (i + 1) f _ (by omega) (by omega) (at_step g)
    by_cases h32 : b i = 32
    · rw [if_pos (show znn (b i) = 32 by rw [h32]; rfl), if_pos ⟨hi, by rw [h32]; rfl⟩]
      exact ih
    · rw [if_neg (show ¬ znn (b i) = 32 by rw [zl32, zn_eq (by omega) (by decide)]; exact h32)]
      by_cases h10 : b i = 10
      · rw [if_pos (show znn (b i) = 10 by rw [h10]; rfl), if_pos ⟨hi, by rw [h10]; rfl⟩]
        exact ih
      · rw [if_neg (show ¬ znn (b i) = 10 by rw [zl10, zn_eq (by omega) (by decide)]; exact h10), if_neg (fun hc => by
          have := hc.2
          unfold isBlk at this
          simp [h32, h10] at this)]
        exact ⟨B', rfl, g⟩
