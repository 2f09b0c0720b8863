-- ===== what a rule does, on both sides =====
def b01 (b : Bool) : Int32 := if b = true then 1 else 0
def rDo (n : Nat) (S : Nat) : Nat → Int32 × Nat → Bool
  | 0, y => if nK y = 0 then S.testBit (nO n y) else decide (nO n y ≤ pop S)
  | f + 1, y => if nK y = 0 then S.testBit (nO n y) else if nK y = 1 then decide (nO n y ≤ pop S) else if nK y = 2 then rDo n S f (nL y) && rDo n S f (nR y) else rDo n S f (nL y) || rDo n S f (nR y)
theorem rDo_leaf {n S : Nat} {y : Int32 × Nat} (hk : nK y < 2) (f : Nat) : rDo n S f y = if nK y = 0 then S.testBit (nO n y) else decide (nO n y ≤ pop S) := by
  cases f with
  | zero => rfl
  | succ f =>
    unfold rDo
    by_cases h : nK y = 0
    · rw [if_pos h, if_pos h]
    · rw [if_neg h, if_neg h, if_pos (by omega)]
theorem does_leaf {lo n f F r S : Nat} {y : Int32 × Nat} {M : ZI} {R : ZF} {L : ZY} (h0 : 0 < n) (hn : n ≤ 10) (hS : S < 1024) (hz : zgood R L = true) (hL : L.length ≤ 600000) (hk : nK y < 2) (h1 : L[r]? = some (16, 4)) (h2 : M r 0 = znn (nK y)) (h3 : M r 1 = znn (nO n y)) : g106_does (F + 1) r (znn S) M R L = some (b01 (rDo n S f y)) := by
  rw [rDo_leaf hk]
  simp only [g106_does, g106_does_b]
  rw [if_pos (gob_of h1 (lay_lt h1 (by omega))), h2, h3]
  by_cases h : nK y = 0
  · have := (nO_lt h0 y).1 h
    rw [h, if_pos (show znn 0 = 0 from rfl), if_pos (show 0 = 0 from rfl), zbit (by omega) (by omega)]
    unfold b01
    by_cases hb : S.testBit (nO n y) = true
    · rw [if_pos hb, if_pos (by decide)]
    · rw [if_neg hb, if_neg (by decide)]
  · have h1' : nK y = 1 := by omega
    have hp := pop_le S
    have := (nO_lt h0 y).2 h
    rw [h1', if_neg (show ¬ znn 1 = 0 by decide), if_pos (show znn 1 = 1 from rfl), if_pos hz, bitCount_zn hS, if_neg (show ¬ 1 = 0 by decide)]
    simp only [Option.bind_some]
    unfold b01
    by_cases hb : nO n y ≤ pop S
    · rw [if_neg (by rw [zn_lt (by omega) (by omega)]; omega), if_pos (decide_eq_true hb)]
    · rw [if_pos (by rw [zn_lt (by omega) (by omega)]; omega), if_neg (by simp [hb])]
theorem rule_does {lo n S : Nat} {M : ZI} {R : ZF} {L : ZY} (h0 : 0 < n) (hn : n ≤ 10) (hS : S < 1024) (hz : zgood R L = true) (hL : L.length ≤ 600000) : ∀ f (y : Int32 × Nat) r F, y.2 + f = 3 → f < F → rIs lo n f y M R L r → g106_does F r (znn S) M R L = some (b01 (rDo n S f y)) := by
  intro f
  induction f with
  | zero =>
    intro y r F hy hF h
    obtain ⟨F, rfl⟩ : ∃ k, F = k + 1 := ⟨F - 1, by omega⟩
    exact does_leaf (lo := 0) h0 hn hS hz hL ((nK_lt y).2 (by omega)) h.1 h.2.2.1 h.2.2.2
  | succ f ih =>
    intro y r F hy hF h
    obtain ⟨F, rfl⟩ : ∃ k, F = k + 1 := ⟨F - 1, by omega⟩
    obtain ⟨h1, h2, h3, h4, h5⟩ := h
    by_cases hk : nK y < 2
    · exact does_leaf (lo := 0) h0 hn hS hz hL hk h1 h3 (h4 hk)
    · obtain ⟨a, b, g1, g2, g3, g4⟩ := h5 (by omega)
      have hk4 := (nK_lt y).1
      have ga := gob_of (c := 13) (rIs_obj g3).1 (lay_lt (rIs_obj g3).1 (by omega))
      have gb := gob_of (c := 13) (rIs_obj g4).1 (lay_lt (rIs_obj g4).1 (by omega))
      have ea := ih (nL y) a F (by show y.2 + 1 + f = 3; omega) (by omega) g3
      have eb := ih (nR y) b F (by show y.2 + 1 + f = 3; omega) (by omega) g4
      simp only [g106_does, g106_does_b]
      unfold rDo
      rw [if_pos (gob_of h1 (lay_lt h1 (by omega))), h3, if_neg (show ¬ nK y = 0 by omega), if_neg (show ¬ nK y = 1 by omega), if_neg (show ¬ znn (nK y) = 0 by rw [zl0, zn_eq (by omega) (by decide)]; omega), if_neg (show ¬ znn (nK y) = 1 by rw [zl1, zn_eq (by omega) (by decide)]; omega), g1, g2]
      simp only [Option.bind_some]
      simp only [ga, gb, ea, eb, if_true, Option.bind_some]
      by_cases h2' : nK y = 2
      · rw [if_pos (show znn (nK y) = 2 by rw [h2']; rfl), if_pos h2']
        cases rDo n S f (nL y) <;> cases rDo n S f (nR y) <;> rfl
      · rw [if_neg (show ¬ znn (nK y) = 2 by rw [zl2, zn_eq (by omega) (by decide)]; omega), if_neg h2']
        cases rDo n S f (nL y) <;> cases rDo n S f (nR y) <;> rfl
theorem rule_size {lo n : Nat} {M : ZI} {R : ZF} {L : ZY} (hL : L.length ≤ 600000) : ∀ f (y : Int32 × Nat) r F, y.2 + f = 3 → f < F → rIs lo n f y M R L r → g150_size F r M R L = some (znn (rSz f y)) := by
  intro f
  induction f with
  | zero =>
    intro y r F hy hF h
    obtain ⟨F, rfl⟩ : ∃ k, F = k + 1 := ⟨F - 1, by omega⟩
    have hk := (nK_lt y).2 (by omega)
    simp only [g150_size, g150_size_b]
    rw [if_pos (gob_of h.1 (lay_lt h.1 (by omega))), h.2.2.1, if_pos (by rw [zl2, zn_lt (by omega) (by decide)]; omega)]
    rfl
  | succ f ih =>
    intro y r F hy hF h
    obtain ⟨F, rfl⟩ : ∃ k, F = k + 1 := ⟨F - 1, by omega⟩
    obtain ⟨h1, h2, h3, h4, h5⟩ := h
    have hk4 := (nK_lt y).1
    simp only [g150_size, g150_size_b]
    unfold rSz
    rw [if_pos (gob_of h1 (lay_lt h1 (by omega))), h3]
    by_cases hk : nK y < 2
    · rw [if_pos (by rw [zl2, zn_lt (by omega) (by decide)]; omega), if_pos hk]
      rfl
    · obtain ⟨a, b, g1, g2, g3, g4⟩ := h5 (by omega)
      rw [if_neg (by rw [zl2, zn_lt (by omega) (by decide)]; omega), if_neg hk, g1, g2]
      simp only [Option.bind_some]
      rw [if_pos (gob_of (c := 13) (rIs_obj g3).1 (lay_lt (rIs_obj g3).1 (by omega))), ih (nL y) a F (by show y.2 + 1 + f = 3; omega) (by omega) g3]
      simp only [Option.bind_some]
      rw [if_pos (gob_of (c := 13) (rIs_obj g4).1 (lay_lt (rIs_obj g4).1 (by omega))), ih (nR y) b F (by show y.2 + 1 + f = 3; omega) (by omega) g4]
      simp only [Option.bind_some]
      rw [zn_add]
theorem getD_left {a b : List Nat} {i : Nat} (h : i < a.length) : (a ++ b).getD i 0 = a.getD i 0 := by
  rw [List.getD_eq_getElem?_getD, List.getElem?_append_left h, ← List.getD_eq_getElem?_getD]
theorem getD_right {a b : List Nat} {i : Nat} : (a ++ b).getD (a.length + i) 0 = b.getD i 0 := by
  rw [List.getD_eq_getElem?_getD, List.getElem?_append_right (by omega), Nat.add_sub_cancel_left, ← List.getD_eq_getElem?_getD]
theorem cd_leaf {n S f i k : Nat} {y : Int32 × Nat} {w : Nat → Int32} {st : List Int32} (h0 : 0 < n) (hn : n ≤ 10) (hS : S < 1024) (hk : nK y < 2) (hw : ∀ j, j < (rCd n f y).length → w (162 + (i + j)) = znn ((rCd n f y).getD j 0)) (hst : st.length < 64) : cRun S w ((rCd n f y).length + k) i st = cRun S w k (i + (rCd n f y).length) (b01 (rDo n S f y) :: st) := by
  rw [(leaf_tk (n := n) hk f []).2.1] at hw ⊢
  rw [rDo_leaf hk]
  have h1 := hw 0 (by simp)
  rw [show ([if decide (nK y = 1) = true then 20 + nO n y else nO n y] : List Nat).length + k = k + 1 by simp; omega, cRun]
  have hs : cStep S (w (162 + i)) st = some (b01 (if nK y = 0 then S.testBit (nO n y) else decide (nO n y ≤ pop S)) :: st) := by
    rw [Nat.add_zero] at h1
    rw [h1]
    unfold cStep
    by_cases h : nK y = 0
    · have := (nO_lt h0 y).1 h
      simp only [h, List.getD_cons_zero, Nat.zero_ne_one, decide_false, Bool.false_eq_true, if_false, if_true]
      rw [if_pos (by rw [zl40, zn_lt (by omega) (by decide)]; omega), if_pos hst, if_pos (by rw [zl20, zn_lt (by omega) (by decide)]; omega), zbit (by omega) (by omega)]
      rfl
    · have h1' : nK y = 1 := by omega
      have := (nO_lt h0 y).2 h
      have hp := pop_le S
      simp only [h1', List.getD_cons_zero, decide_true, if_true]
      rw [if_pos (by rw [zl40, zn_lt (by omega) (by decide)]; omega), if_pos hst, if_neg (by rw [zl20, zn_lt (by omega) (by decide)]; omega), zl20, zn_sub (by omega), Nat.add_sub_cancel_left, if_neg (show ¬ 1 = 0 by decide)]
      unfold b01
      by_cases hb : nO n y ≤ pop S
      · rw [if_neg (by rw [zn_lt (by omega) (by omega)]; omega), if_pos (decide_eq_true hb)]
      · rw [if_pos (by rw [zn_lt (by omega) (by omega)]; omega), if_neg (by simp [hb])]
  rw [hs]
  rfl
theorem cd_run {n S : Nat} {w : Nat → Int32} (h0 : 0 < n) (hn : n ≤ 10) (hS : S < 1024) : ∀ f (y : Int32 × Nat) i k (st : List Int32), y.2 + f = 3 → (∀ j, j < (rCd n f y).length → w (162 + (i + j)) = znn ((rCd n f y).getD j 0)) → st.length + f < 64 → cRun S w ((rCd n f y).length + k) i st = cRun S w k (i + (rCd n f y).length) (b01 (rDo n S f y) :: st) := by
  intro f
  induction f with
  | zero =>
    intro y i k st hy hw hst
    exact cd_leaf h0 hn hS ((nK_lt y).2 (by omega)) hw (by omega)
  | succ f ih =>
    intro y i k st hy hw hst
    by_cases hk : nK y < 2
    · exact cd_leaf h0 hn hS hk hw (by omega)
    · have hk4 := (nK_lt y).1
      have e : rCd n (f + 1) y = rCd n f (nL y) ++ (rCd n f (nR y) ++ [if nK y = 2 then 40 else 41]) := by
        rw [rCd, if_neg (by omega), if_neg (by omega)]
      rw [e] at hw ⊢
      simp only [List.length_append, List.length_cons, List.length_nil] at hw ⊢
      generalize ha : rCd n f (nL y) = A at *
      generalize hb : rCd n f (nR y) = C at *
      have eA := ih (nL y) i (C.length + (k + 1)) st (by show y.2 + 1 + f = 3; omega) (by
        rw [ha]
        intro j hj
        rw [hw j (by omega), getD_left hj]) (by omega)
      have eC := ih (nR y) (i + A.length) (k + 1) (b01 (rDo n S f (nL y)) :: st) (by show y.2 + 1 + f = 3; omega) (by
        rw [hb]
        intro j hj
        rw [Nat.add_assoc i, hw (A.length + j) (by omega), getD_right, getD_left hj]) (by simp; omega)
      rw [ha] at eA
      rw [hb] at eC
      rw [show A.length + (C.length + (0 + 1)) + k = A.length + (C.length + (k + 1)) by omega, eA, eC]
      have hop := hw (A.length + C.length) (by omega)
      have hop2 : (A ++ (C ++ [if nK y = 2 then 40 else 41])).getD (A.length + C.length) 0 = if nK y = 2 then 40 else 41 := by
        rw [getD_right]
        exact getD_right (a := C) (b := [if nK y = 2 then 40 else 41]) (i := 0)
      rw [hop2] at hop
      rw [cRun]
      have hs : cStep S (w (162 + (i + A.length + C.length))) (b01 (rDo n S f (nR y)) :: b01 (rDo n S f (nL y)) :: st) = some (b01 (rDo n S (f + 1) y) :: st) := by
        rw [Nat.add_assoc i, hop]
        unfold cStep
        rw [rDo]
        by_cases h2 : nK y = 2
        · rw [if_pos h2, if_neg (show ¬ nK y = 0 by omega), if_neg (show ¬ nK y = 1 by omega), if_pos h2, if_neg (by decide)]
          simp only [show znn 40 = 40 from rfl, if_true]
          cases rDo n S f (nL y) <;> cases rDo n S f (nR y) <;> rfl
        · rw [if_neg h2, if_neg (show ¬ nK y = 0 by omega), if_neg (show ¬ nK y = 1 by omega), if_neg h2, if_neg (by decide)]
          simp only [show ¬ znn 41 = 40 by decide, if_false]
          cases rDo n S f (nL y) <;> cases rDo n S f (nR y) <;> rfl
      rw [hs]
      simp only [Option.bind_some]
      congr 1
      omega
theorem sat_cd {n S : Nat} {x : Int32} {w : Nat → Int32} (h0 : 0 < n) (hn : n ≤ 10) (hS : S < 1024) (h54 : w 54 = znn (cCd n x).length) (hw : ∀ i, i < (cCd n x).length → w (162 + i) = znn ((cCd n x).getD i 0)) : sSat w S = b01 (rDo n S 3 (x, 0)) := by
  have hl := rCd_len n 3 (x, 0)
  have h := cd_run (w := w) h0 hn hS 3 (x, 0) 0 0 [] rfl (fun j hj => by rw [Nat.zero_add]; exact hw j hj) (by decide)
  unfold sSat
  rw [h54, zn_zi (by unfold cCd; omega)]
  rw [Nat.add_zero] at h
  unfold cCd
  rw [h]
  rfl
