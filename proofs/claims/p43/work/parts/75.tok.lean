def askTok (w : Nat → Bool) : Int32 := if w 8 = true then 41 else if w 9 = true then 42 else if w 10 = true then 43 else if w 11 = true then 44 else if w 12 = true then 45 else if w 13 = true then 46 else if w 14 = true then 47 else if w 15 = true then 48 else if w 16 = true then 49 else 1
theorem askTok_eq {M : ZI} {w : Nat → Bool} (his : ∀ k, 0 < k → k ≤ 24 → f162_is k M = some (if w k = true then 1 else 0)) : f163_asked M = some (askTok w) := by
  unfold f163_asked askTok
  rw [his 8 (by decide) (by decide), Option.bind_some]
  cases h8 : w 8 with
  | true => simp only [↓reduceIte]; rfl
  | false =>
  simp only [Bool.false_eq_true, ↓reduceIte]
  rw [his 9 (by decide) (by decide), Option.bind_some]
  cases h9 : w 9 with
  | true => simp only [↓reduceIte]; rfl
  | false =>
  simp only [Bool.false_eq_true, ↓reduceIte]
  rw [his 10 (by decide) (by decide), Option.bind_some]
  cases h10 : w 10 with
  | true => simp only [↓reduceIte]; rfl
  | false =>
  simp only [Bool.false_eq_true, ↓reduceIte]
  rw [his 11 (by decide) (by decide), Option.bind_some]
  cases h11 : w 11 with
  | true => simp only [↓reduceIte]; rfl
  | false =>
  simp only [Bool.false_eq_true, ↓reduceIte]
  rw [his 12 (by decide) (by decide), Option.bind_some]
  cases h12 : w 12 with
  | true => simp only [↓reduceIte]; rfl
  | false =>
  simp only [Bool.false_eq_true, ↓reduceIte]
  rw [his 13 (by decide) (by decide), Option.bind_some]
  cases h13 : w 13 with
  | true => simp only [↓reduceIte]; rfl
  | false =>
  simp only [Bool.false_eq_true, ↓reduceIte]
  rw [his 14 (by decide) (by decide), Option.bind_some]
  cases h14 : w 14 with
  | true => simp only [↓reduceIte]; rfl
  | false =>
  simp only [Bool.false_eq_true, ↓reduceIte]
  rw [his 15 (by decide) (by decide), Option.bind_some]
  cases h15 : w 15 with
  | true => simp only [↓reduceIte]; rfl
  | false =>
  simp only [Bool.false_eq_true, ↓reduceIte]
  rw [his 16 (by decide) (by decide), Option.bind_some]
  cases h16 : w 16 with
  | true => simp only [↓reduceIte]; rfl
  | false =>
  simp only [Bool.false_eq_true, ↓reduceIte]
def lawTok (w : Nat → Bool) : Int32 := if w 1 = true then 3 else if w 2 = true then 4 else if w 3 = true then 5 else if w 4 = true then 6 else if w 5 = true then 20 else if w 6 = true then 21 else if w 7 = true then 22 else askTok w
theorem lawTok_eq {M : ZI} {w : Nat → Bool} (his : ∀ k, 0 < k → k ≤ 24 → f162_is k M = some (if w k = true then 1 else 0)) : f161_lawWord M = some (lawTok w) := by
  unfold f161_lawWord lawTok
  rw [his 1 (by decide) (by decide), Option.bind_some]
  cases h1 : w 1 with
  | true => simp only [↓reduceIte]; rfl
  | false =>
  simp only [Bool.false_eq_true, ↓reduceIte]
  rw [his 2 (by decide) (by decide), Option.bind_some]
  cases h2 : w 2 with
  | true => simp only [↓reduceIte]; rfl
  | false =>
  simp only [Bool.false_eq_true, ↓reduceIte]
  rw [his 3 (by decide) (by decide), Option.bind_some]
  cases h3 : w 3 with
  | true => simp only [↓reduceIte]; rfl
  | false =>
  simp only [Bool.false_eq_true, ↓reduceIte]
  rw [his 4 (by decide) (by decide), Option.bind_some]
  cases h4 : w 4 with
  | true => simp only [↓reduceIte]; rfl
  | false =>
  simp only [Bool.false_eq_true, ↓reduceIte]
  rw [his 5 (by decide) (by decide), Option.bind_some]
  cases h5 : w 5 with
  | true => simp only [↓reduceIte]; rfl
  | false =>
  simp only [Bool.false_eq_true, ↓reduceIte]
  rw [his 6 (by decide) (by decide), Option.bind_some]
  cases h6 : w 6 with
  | true => simp only [↓reduceIte]; rfl
  | false =>
  simp only [Bool.false_eq_true, ↓reduceIte]
  rw [his 7 (by decide) (by decide), Option.bind_some]
  cases h7 : w 7 with
  | true => simp only [↓reduceIte]; rfl
  | false =>
  simp only [Bool.false_eq_true, ↓reduceIte]
  rw [askTok_eq his]
  rfl
def workTok (w : Nat → Bool) : Int32 := if w 18 = true then 8 else if w 19 = true then 9 else if w 20 = true then 10 else if w 21 = true then 11 else if w 22 = true then 12 else if w 23 = true then 13 else 1
theorem workTok_eq {M : ZI} {w : Nat → Bool} (his : ∀ k, 0 < k → k ≤ 24 → f162_is k M = some (if w k = true then 1 else 0)) : f164_workWord M = some (workTok w) := by
  unfold f164_workWord workTok
  rw [his 18 (by decide) (by decide), Option.bind_some]
  cases h18 : w 18 with
  | true => simp only [↓reduceIte]; rfl
  | false =>
  simp only [Bool.false_eq_true, ↓reduceIte]
  rw [his 19 (by decide) (by decide), Option.bind_some]
  cases h19 : w 19 with
  | true => simp only [↓reduceIte]; rfl
  | false =>
  simp only [Bool.false_eq_true, ↓reduceIte]
  rw [his 20 (by decide) (by decide), Option.bind_some]
  cases h20 : w 20 with
  | true => simp only [↓reduceIte]; rfl
  | false =>
  simp only [Bool.false_eq_true, ↓reduceIte]
  rw [his 21 (by decide) (by decide), Option.bind_some]
  cases h21 : w 21 with
  | true => simp only [↓reduceIte]; rfl
  | false =>
  simp only [Bool.false_eq_true, ↓reduceIte]
  rw [his 22 (by decide) (by decide), Option.bind_some]
  cases h22 : w 22 with
  | true => simp only [↓reduceIte]; rfl
  | false =>
  simp only [Bool.false_eq_true, ↓reduceIte]
  rw [his 23 (by decide) (by decide), Option.bind_some]
  cases h23 : w 23 with
  | true => simp only [↓reduceIte]; rfl
  | false =>
  simp only [Bool.false_eq_true, ↓reduceIte]
def councilTok (w : Nat → Bool) : Int32 := if w 2 = true then 4 else if w 3 = true then 5 else if w 24 = true then 14 else 1
theorem councilTok_eq {M : ZI} {w : Nat → Bool} (his : ∀ k, 0 < k → k ≤ 24 → f162_is k M = some (if w k = true then 1 else 0)) : f165_councilWord M = some (councilTok w) := by
  unfold f165_councilWord councilTok
  rw [his 2 (by decide) (by decide), Option.bind_some]
  cases h2 : w 2 with
  | true => simp only [↓reduceIte]; rfl
  | false =>
  simp only [Bool.false_eq_true, ↓reduceIte]
  rw [his 3 (by decide) (by decide), Option.bind_some]
  cases h3 : w 3 with
  | true => simp only [↓reduceIte]; rfl
  | false =>
  simp only [Bool.false_eq_true, ↓reduceIte]
  rw [his 24 (by decide) (by decide), Option.bind_some]
  cases h24 : w 24 with
  | true => simp only [↓reduceIte]; rfl
  | false =>
  simp only [Bool.false_eq_true, ↓reduceIte]
def wordTok (a : Nat) (w : Nat → Bool) : Int32 := if a = 0 then lawTok w else if a = 1 then (if w 17 = true then 7 else 1) else if a = 2 then workTok w else councilTok w
theorem wordTok_eq {M : ZI} {w : Nat → Bool} {a : Nat} (his : ∀ k, 0 < k → k ≤ 24 → f162_is k M = some (if w k = true then 1 else 0)) (h14 : M 148 14 = znn a) (ha : a ≤ 3) : f160_word M = some (wordTok a w) := by
  have h4 : a = 0 ∨ a = 1 ∨ a = 2 ∨ a = 3 := by omega
  unfold f160_word
  rw [h14]
  rcases h4 with rfl | rfl | rfl | rfl
  · rw [if_pos (show znn 0 = 0 from rfl), lawTok_eq his]
    rfl
  · rw [if_neg (show ¬ znn 1 = 0 by decide), if_pos (show znn 1 = 1 from rfl), his 17 (by decide) (by decide), Option.bind_some]
    unfold wordTok
    cases w 17 <;> rfl
  · rw [if_neg (show ¬ znn 2 = 0 by decide), if_neg (show ¬ znn 2 = 1 by decide), if_pos (show znn 2 = 2 from rfl), workTok_eq his]
    rfl
  · rw [if_neg (show ¬ znn 3 = 0 by decide), if_neg (show ¬ znn 3 = 1 by decide), if_neg (show ¬ znn 3 = 2 by decide), councilTok_eq his]
    rfl
