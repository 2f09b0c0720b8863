-- ===== text: letters and digits, on both sides =====
def isLet (x : Nat) : Bool := (decide (97 ≤ x) && decide (x ≤ 122)) || (decide (65 ≤ x) && decide (x ≤ 90))
def isDig (x : Nat) : Bool := decide (48 ≤ x) && decide (x ≤ 57)
theorem letter_eq {x : Nat} (h : x < 256) : f55_isLetter (znn x) = some (if isLet x = true then 1 else 0) ∧ f159_isLetter (znn x) = some (if isLet x = true then 1 else 0) := by
  have : ∀ x : Fin 256, f55_isLetter (znn x.val) = some (if isLet x.val = true then 1 else 0) ∧ f159_isLetter (znn x.val) = some (if isLet x.val = true then 1 else 0) := by decide +kernel
  exact this ⟨x, h⟩
theorem digit_eq {x : Nat} (h : x < 256) : f65_isDigit (znn x) = some (if isDig x = true then 1 else 0) ∧ f166_isDigit (znn x) = some (if isDig x = true then 1 else 0) := by
  have : ∀ x : Fin 256, f65_isDigit (znn x.val) = some (if isDig x.val = true then 1 else 0) ∧ f166_isDigit (znn x.val) = some (if isDig x.val = true then 1 else 0) := by decide +kernel
  exact this ⟨x, h⟩
theorem end_eq : f159_isLetter (-1) = some 0 ∧ f166_isDigit (-1) = some 0 := by decide +kernel
/-- the t bytes of the tape, in both memories -/
def tapB (b : Nat → Nat) (t : Nat) : Prop := t ≤ 400 ∧ ∀ i, i < t → b i < 256
def onA (A : ZI) (b : Nat → Nat) (t : Nat) : Prop := A 119 1 = znn t ∧ ∀ i, i < t → A 120 i = znn (b i)
def onB (B : ZI) (b : Nat → Nat) (t : Nat) : Prop := B 148 19 = znn t ∧ ∀ i, i < t → B 158 i = znn (b i)
theorem tape_b {A B : ZI} (h : tapeIs A B) : ∃ b t, tapB b t ∧ onA A b t ∧ onB B b t := by
  obtain ⟨t, h1, h2, h3, h4, -⟩ := h
  refine ⟨fun i => zi (A 120 i), t, ⟨h1, fun i hi => ?_⟩, ⟨h2, fun i hi => ?_⟩, ⟨h3, fun i hi => ?_⟩⟩
  · obtain ⟨-, x, hx, e⟩ := h4 i hi
    show zi (A 120 i) < 256
    rw [e, zn_zi (by omega)]
    exact hx
  · obtain ⟨-, x, hx, e⟩ := h4 i hi
    show A 120 i = znn (zi (A 120 i))
    rw [e, zn_zi (by omega)]
  · obtain ⟨e0, x, hx, e⟩ := h4 i hi
    show B 158 i = znn (zi (A 120 i))
    rw [← e0, e, zn_zi (by omega)]
theorem see_in {B : ZI} {b : Nat → Nat} {t i : Nat} (hb : tapB b t) (h : onB B b t) (hi : i < t) : f158_see (znn i) B = some (znn (b i)) := by
  have := hb.1
  unfold f158_see
  rw [h.1, if_pos ((zn_lt (by omega) (by omega)).mpr hi), if_pos ((zn_zin (by omega)).mpr (by omega)), zn_zi (by omega), h.2 i hi]
theorem see_out {B : ZI} {b : Nat → Nat} {t i : Nat} (hb : tapB b t) (h : onB B b t) (hi : t ≤ i) (hi2 : i < 100000) : f158_see (znn i) B = some (-1) := by
  have := hb.1
  unfold f158_see
  rw [h.1, if_neg (by rw [zn_lt (by omega) (by omega)]; omega)]
/-- where the run of letters (digits) from i on ends -/
def runEnd (P : Nat → Bool) (b : Nat → Nat) (t : Nat) : Nat → Nat → Nat
  | 0, i => i
  | d + 1, i => if i < t ∧ P (b i) = true then runEnd P b t d (i + 1) else i
theorem runEnd_bd {P : Nat → Bool} {b : Nat → Nat} {t : Nat} : ∀ d i, i ≤ t → i ≤ runEnd P b t d i ∧ runEnd P b t d i ≤ t
  | 0, i, h => ⟨Nat.le_refl _, h⟩
  | d + 1, i, h => by
    unfold runEnd
    by_cases hc : i < t ∧ P (b i) = true
    · rw [if_pos hc]
      have := runEnd_bd (P := P) (b := b) (t := t) d (i + 1) (by omega)
      omega
    · rw [if_neg hc]
      exact ⟨Nat.le_refl _, h⟩
theorem letters_cls {M : ZI} {b : Nat → Nat} {t : Nat} (hb : tapB b t) (h : onA M b t) : ∀ d i f, i + d = t → d < f → f54_l33 119 M f (znn i) = some (znn (runEnd isLet b t d i))
  | 0, i, f, h1, h2 => by
    obtain ⟨f, rfl⟩ : ∃ g, f = g + 1 := ⟨f - 1, by omega⟩
    have := hb.1
    rw [f54_l33, h.1, if_neg (by rw [zn_lt (by omega) (by omega)]; omega)]
    rfl
  | d + 1, i, f, h1, h2 => by
    obtain ⟨f, rfl⟩ : ∃ g, f = g + 1 := ⟨f - 1, by omega⟩
    have := hb.1
    have hi : i < t := by omega
    rw [f54_l33, h.1, if_pos ((zn_lt (by omega) (by omega)).mpr hi), if_pos ((zn_zin (by omega)).mpr (by omega)), zn_zi (by omega), show M (119 + 1) i = znn (b i) from h.2 i hi, (letter_eq (hb.2 i hi)).1, Option.bind_some, zadd1, runEnd]
    by_cases hl : isLet (b i) = true
    · rw [if_pos hl, if_neg (by decide), if_pos ⟨hi, hl⟩]
      exact letters_cls hb h d (i + 1) f (by omega) (by omega)
    · rw [if_neg hl, if_pos rfl, if_neg (fun hc => hl hc.2)]
theorem digits_cls {M : ZI} {b : Nat → Nat} {t : Nat} (hb : tapB b t) (h : onA M b t) : ∀ d i f, i + d = t → d < f → f54_l81 119 M f (znn i) = some (znn (runEnd isDig b t d i))
  | 0, i, f, h1, h2 => by
    obtain ⟨f, rfl⟩ : ∃ g, f = g + 1 := ⟨f - 1, by omega⟩
    have := hb.1
    rw [f54_l81, h.1, if_neg (by rw [zn_lt (by omega) (by omega)]; omega)]
    rfl
  | d + 1, i, f, h1, h2 => by
    obtain ⟨f, rfl⟩ : ∃ g, f = g + 1 := ⟨f - 1, by omega⟩
    have := hb.1
    have hi : i < t := by omega
    rw [f54_l81, h.1, if_pos ((zn_lt (by omega) (by omega)).mpr hi), if_pos ((zn_zin (by omega)).mpr (by omega)), zn_zi (by omega), show M (119 + 1) i = znn (b i) from h.2 i hi, (digit_eq (hb.2 i hi)).1, Option.bind_some, zadd1, runEnd]
    by_cases hl : isDig (b i) = true
    · rw [if_pos hl, if_neg (by decide), if_pos ⟨hi, hl⟩]
      exact digits_cls hb h d (i + 1) f (by omega) (by omega)
    · rw [if_neg hl, if_pos rfl, if_neg (fun hc => hl hc.2)]
