-- ===== what the five lines come to =====
theorem sStep_v {F : Nat → Int32} {s v v' : Int32} {st : List Int32} (h : s = 0 ∨ s = 26 → v = v') : sStep F s v st = sStep F s v' st := by
  unfold sStep
  by_cases h0 : s = 0
  · rw [h (Or.inl h0)]
  · by_cases h26 : s = 26
    · rw [h (Or.inr h26)]
    · simp only [if_neg h0, if_neg h26]
def runL (F : Nat → Int32) : List (Nat × Nat) → List Int32 → Option (List Int32)
  | [], st => some st
  | c :: cs, st => (sStep F (znn c.1) (znn c.2) st).bind (runL F cs)
def hasCode (w : Nat → Int32) (i : Nat) (cs : List (Nat × Nat)) : Prop := ∀ j, j < cs.length → w (1244 + 2 * (i + j)) = znn (cs.getD j (0, 0)).1 ∧ ((cs.getD j (0, 0)).1 = 0 ∨ (cs.getD j (0, 0)).1 = 26 → w (1245 + 2 * (i + j)) = znn (cs.getD j (0, 0)).2)
theorem run_code {F w : Nat → Int32} : ∀ (cs : List (Nat × Nat)) (i : Nat) (st : List Int32), (∀ c ∈ cs, c.1 < 1000) → hasCode w i cs → sRun F w cs.length i st = runL F cs st
  | [], _, _, _, _ => rfl
  | c :: cs, i, st, hs, h => by
    obtain ⟨h1, h2⟩ := h 0 (by simp)
    have hc := hs c (by simp)
    have e : sStep F (w (1244 + 2 * i)) (w (1245 + 2 * i)) st = sStep F (znn c.1) (znn c.2) st := by
      have h1' : w (1244 + 2 * i) = znn c.1 := h1
      rw [h1']
      refine sStep_v (fun hh => h2 ?_)
      show c.1 = 0 ∨ c.1 = 26
      rcases hh with hh | hh
      · left; rw [zl0, zn_eq (by omega) (by omega)] at hh; exact hh
      · right; rw [zl26, zn_eq (by omega) (by omega)] at hh; exact hh
    simp only [List.length_cons, sRun, runL]
    rw [e]
    congr 1
    funext st'
    exact run_code cs (i + 1) st' (fun c' hc' => hs c' (by simp [hc'])) (fun j hj => by
      have := h (j + 1) (by simp; omega)
      rw [show i + (j + 1) = i + 1 + j by omega] at this
      exact this)
theorem ev_num {F : Nat → Int32} {V : Nat} {st : List Int32} (h : st.length < 64) : sStep F (znn 0) (znn V) st = some (znn V :: st) := by
  unfold sStep
  rw [if_pos (by decide), if_pos h, if_pos (show znn 0 = 0 from rfl)]
theorem ev_name {F : Nat → Int32} {k V : Nat} {st : List Int32} (h : st.length < 64) (h1 : 1 ≤ k) (h9 : k ≤ 9) : sStep F (znn k) (znn V) st = some (F (k - 1) :: st) := by
  unfold sStep
  rw [if_pos (show znn k < 23 by rw [zl23, zn_lt (by omega) (by omega)]; omega), if_pos h, if_neg (show ¬ znn k = 0 by rw [zl0, zn_eq (by omega) (by omega)]; omega), if_pos ((zn_zin (by omega)).mpr (by omega)), zn_zi (by omega)]
theorem ev_div {F : Nat → Int32} {V : Nat} {x : Int32} {st : List Int32} (hV : 0 < V) (hV2 : V < 1000) : sStep F (znn 26) (znn V) (x :: st) = some (x / znn V :: st) := by
  unfold sStep
  rw [if_neg (by decide)]
  simp only
  rw [if_pos (show znn 26 = 26 from rfl), if_neg (show ¬ znn V = 0 by rw [zl0, zn_eq (by omega) (by omega)]; omega)]
theorem ev_not {F : Nat → Int32} {V : Nat} {x : Int32} {st : List Int32} : sStep F (znn 30) (znn V) (x :: st) = some (((1 : Int32) - x) :: st) := by
  unfold sStep
  rw [if_neg (by decide)]
  simp only
  rw [if_neg (by decide), if_pos (show znn 30 = 30 from rfl)]
theorem ev_both {F : Nat → Int32} {k V : Nat} {x y : Int32} {st : List Int32} (hk : k = 23 ∨ k = 24 ∨ k = 25 ∨ k = 27 ∨ k = 28 ∨ k = 29 ∨ k = 31 ∨ k = 32) : sStep F (znn k) (znn V) (y :: x :: st) = (f212_both (znn k) x y).bind fun z => some (z :: st) := by
  unfold sStep
  rcases hk with rfl | rfl | rfl | rfl | rfl | rfl | rfl | rfl <;> (rw [if_neg (by decide)]; simp only; rw [if_neg (by decide), if_neg (by decide)])
def oneIf (c : Prop) [Decidable c] : Int32 := if c then 1 else 0
theorem both23 (x y : Int32) : f212_both (znn 23) x y = some (x + y) := rfl
theorem both24 (x y : Int32) : f212_both (znn 24) x y = some (x - y) := rfl
theorem both25 (x y : Int32) : f212_both (znn 25) x y = some (x * y) := rfl
theorem both27 (x y : Int32) : f212_both (znn 27) x y = some (oneIf (x < y)) := by
  show (if x < y then some (1 : Int32) else some 0) = _
  unfold oneIf
  split <;> rfl
theorem both29 (x y : Int32) : f212_both (znn 29) x y = some (oneIf (y < x)) := by
  show (if y < x then some (1 : Int32) else some 0) = _
  unfold oneIf
  split <;> rfl
theorem both31 (x y : Int32) : f212_both (znn 31) x y = some (x &&& y) := rfl
theorem both32 (x y : Int32) : f212_both (znn 32) x y = some (x ||| y) := rfl
theorem val_1 {F : Nat → Int32} {D2 : Nat} : runL F [(3, 0), (26, 4), (0, D2), (23, 0)] [] = some [F 2 / 4 + znn D2] := by
  simp only [runL]
  rw [ev_name (by simp) (by decide) (by decide)]
  simp only [Option.bind_some]
  rw [ev_div (by decide) (by decide)]
  simp only [Option.bind_some]
  rw [ev_num (by simp)]
  simp only [Option.bind_some]
  rw [ev_both (by decide), both23]
  rfl
theorem val_1w {F : Nat → Int32} {D0 D1 : Nat} : runL F [(2, 0), (0, D0), (29, 0), (4, 0), (0, D1), (29, 0), (6, 0), (0, 9), (29, 0), (32, 0), (30, 0), (31, 0)] [] = some [oneIf (znn D0 < F 1) &&& (1 - (oneIf (znn D1 < F 3) ||| oneIf ((9 : Int32) < F 5)))] := by
  simp only [runL]
  rw [ev_name (by simp) (by decide) (by decide)]
  simp only [Option.bind_some]
  rw [ev_num (by simp)]
  simp only [Option.bind_some]
  rw [ev_both (by decide), both29]
  simp only [Option.bind_some]
  rw [ev_name (by simp) (by decide) (by decide)]
  simp only [Option.bind_some]
  rw [ev_num (by simp)]
  simp only [Option.bind_some]
  rw [ev_both (by decide), both29]
  simp only [Option.bind_some]
  rw [ev_name (by simp) (by decide) (by decide)]
  simp only [Option.bind_some]
  rw [ev_num (by simp)]
  simp only [Option.bind_some]
  rw [ev_both (by decide), both29]
  simp only [Option.bind_some]
  rw [ev_both (by decide), both32]
  simp only [Option.bind_some]
  rw [ev_not]
  simp only [Option.bind_some]
  rw [ev_both (by decide), both31]
  rfl
theorem val_2 {F : Nat → Int32} {D3 : Nat} : runL F [(5, 0), (4, 0), (0, D3), (25, 0), (24, 0)] [] = some [F 4 - F 3 * znn D3] := by
  simp only [runL]
  rw [ev_name (by simp) (by decide) (by decide)]
  simp only [Option.bind_some]
  rw [ev_name (by simp) (by decide) (by decide)]
  simp only [Option.bind_some]
  rw [ev_num (by simp)]
  simp only [Option.bind_some]
  rw [ev_both (by decide), both25]
  simp only [Option.bind_some]
  rw [ev_both (by decide), both24]
  rfl
theorem val_3 {F : Nat → Int32} : runL F [(9, 0), (26, 3), (8, 0), (23, 0)] [] = some [F 8 / 3 + F 7] := by
  simp only [runL]
  rw [ev_name (by simp) (by decide) (by decide)]
  simp only [Option.bind_some]
  rw [ev_div (by decide) (by decide)]
  simp only [Option.bind_some]
  rw [ev_name (by simp) (by decide) (by decide)]
  simp only [Option.bind_some]
  rw [ev_both (by decide), both23]
  rfl
theorem val_3w {F : Nat → Int32} {D4 : Nat} : runL F [(9, 0), (0, D4), (29, 0), (3, 0), (0, 3), (27, 0), (32, 0)] [] = some [oneIf (znn D4 < F 8) ||| oneIf (F 2 < 3)] := by
  simp only [runL]
  rw [ev_name (by simp) (by decide) (by decide)]
  simp only [Option.bind_some]
  rw [ev_num (by simp)]
  simp only [Option.bind_some]
  rw [ev_both (by decide), both29]
  simp only [Option.bind_some]
  rw [ev_name (by simp) (by decide) (by decide)]
  simp only [Option.bind_some]
  rw [ev_num (by simp)]
  simp only [Option.bind_some]
  rw [ev_both (by decide), both27]
  simp only [Option.bind_some]
  rw [ev_both (by decide), both32]
  rfl
theorem val_5 {F : Nat → Int32} {D6 : Nat} : runL F [(9, 0), (0, D6), (25, 0), (7, 0), (0, 50), (25, 0), (23, 0), (7, 0), (26, 3), (0, 150), (25, 0), (24, 0)] [] = some [F 8 * znn D6 + F 6 * 50 - F 6 / 3 * 150] := by
  simp only [runL]
  rw [ev_name (by simp) (by decide) (by decide)]
  simp only [Option.bind_some]
  rw [ev_num (by simp)]
  simp only [Option.bind_some]
  rw [ev_both (by decide), both25]
  simp only [Option.bind_some]
  rw [ev_name (by simp) (by decide) (by decide)]
  simp only [Option.bind_some]
  rw [ev_num (by simp)]
  simp only [Option.bind_some]
  rw [ev_both (by decide), both25]
  simp only [Option.bind_some]
  rw [ev_both (by decide), both23]
  simp only [Option.bind_some]
  rw [ev_name (by simp) (by decide) (by decide)]
  simp only [Option.bind_some]
  rw [ev_div (by decide) (by decide)]
  simp only [Option.bind_some]
  rw [ev_num (by simp)]
  simp only [Option.bind_some]
  rw [ev_both (by decide), both25]
  simp only [Option.bind_some]
  rw [ev_both (by decide), both24]
  rfl
