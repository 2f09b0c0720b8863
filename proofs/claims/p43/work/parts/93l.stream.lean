-- ===== a text of pieces is a stream of tokens =====
/-- from i on stands tx, to the end -/
def restAt (b : Nat → Nat) (t i : Nat) (tx : List Nat) : Prop := segAt b i tx ∧ i + tx.length = t
theorem segAt_app {b : Nat → Nat} {i : Nat} {x y : List Nat} (h : segAt b i (x ++ y)) : segAt b i x ∧ segAt b (i + x.length) y := by
  refine ⟨fun j hj => ?_, fun j hj => ?_⟩
  · rw [h j (by simp; omega), List.getD_eq_getElem?_getD, List.getElem?_append_left hj, ← List.getD_eq_getElem?_getD]
  · rw [Nat.add_assoc, h (x.length + j) (by simp; omega), List.getD_eq_getElem?_getD, List.getElem?_append_right (by omega), Nat.add_sub_cancel_left, ← List.getD_eq_getElem?_getD]
theorem rest_app {b : Nat → Nat} {t i : Nat} {x y : List Nat} (h : restAt b t i (x ++ y)) : segAt b i x ∧ restAt b t (i + x.length) y := by
  obtain ⟨h1, h2⟩ := h
  obtain ⟨g1, g2⟩ := segAt_app h1
  exact ⟨g1, g2, by simp at h2; omega⟩
theorem blanks_of {b : Nat → Nat} {i sp : Nat} (h : segAt b i (List.replicate sp 32)) : ∀ j, i ≤ j → j < i + sp → b j = 32 := fun j q1 q2 => by
  have := h (j - i) (by simp; omega)
  rw [show i + (j - i) = j by omega] at this
  rw [this, List.getD_eq_getElem?_getD, List.getElem?_replicate, if_pos (by omega)]
  rfl
theorem next_of {b : Nat → Nat} {t e : Nat} {P : Nat → Bool} {rest : List Nat} (h : restAt b t e rest) (hP : P (rest.headD 0) = false) : e = t ∨ P (b e) = false := by
  obtain ⟨h1, h2⟩ := h
  cases rest with
  | nil => left; simpa using h2
  | cons x r =>
    right
    have := h1 0 (by simp)
    rw [Nat.add_zero] at this
    rw [this]
    exact hP
theorem st_word {a t i sp V : Nat} {b : Nat → Nat} {w rest : List Nat} {T : Int32} {l : List (Int32 × Nat)} (h : restAt b t i (List.replicate sp 32 ++ (w ++ rest))) (hl : (w.all isLet) = true) (h0 : 0 < w.length) (hn : isLet (rest.headD 0) = false) (hT : wordTok a (fun k => wMatL w k) = T) (h2 : T ≠ 2) (hr : ∀ e, restAt b t e rest → stream a b t l e) : stream a b t ((T, V) :: l) i := by
  obtain ⟨g1, g2⟩ := rest_app h
  obtain ⟨g3, g4⟩ := rest_app g2
  simp only [List.length_replicate] at g3 g4
  have hle : i + sp + w.length ≤ t := by have := g4.2; omega
  rcases lex_word (a := a) (t := t) (i := i) (s := i + sp) (by omega) (blanks_of g1) g3 h0 (fun x hx => List.all_eq_true.mp hl x hx) hle (next_of g4 hn) with hx | hx
  · rw [hT] at hx
    obtain ⟨l1, l2, l3, l4, l5, l6, -⟩ := hx
    exact ⟨_, _, ⟨l1, l2, l3, l4, l5, l6, fun hh => absurd hh h2⟩, hr _ g4⟩
  · exact absurd (hT.symm.trans hx) h2
theorem st_sign {a t i sp x V : Nat} {b : Nat → Nat} {rest : List Nat} {T : Int32} {l : List (Int32 × Nat)} (h : restAt b t i (List.replicate sp 32 ++ (x :: rest))) (hs : signB x = true) (hT : 100 + znn x = T) (h2 : T ≠ 2) (hr : ∀ e, restAt b t e rest → stream a b t l e) : stream a b t ((T, V) :: l) i := by
  obtain ⟨g1, g2⟩ := rest_app h
  have g2' : restAt b t (i + sp) ([x] ++ rest) := by simpa using g2
  obtain ⟨g3, g4⟩ := rest_app g2'
  have hx : b (i + sp) = x := by
    have := g3 0 (by simp)
    simpa using this
  have hlt : i + sp < t := by have := g2'.2; simp at this; omega
  rcases lex_sign (a := a) (t := t) (i := i) (s := i + sp) (by omega) (blanks_of g1) hx hlt hs with hx | hx
  · rw [hT] at hx
    obtain ⟨l1, l2, l3, l4, l5, l6, -⟩ := hx
    exact ⟨_, _, ⟨l1, l2, l3, l4, l5, l6, fun hh => absurd hh h2⟩, hr _ g4⟩
  · exact absurd (hT.symm.trans hx) h2
theorem st_num {a t i sp n : Nat} {b : Nat → Nat} {rest : List Nat} {l : List (Int32 × Nat)} (h : restAt b t i (List.replicate sp 32 ++ (digN n ++ rest))) (hn : n < 100) (hd : isDig (rest.headD 0) = false) (hr : ∀ e, restAt b t e rest → stream a b t l e) : stream a b t ((2, n) :: l) i := by
  obtain ⟨g1, g2⟩ := rest_app h
  obtain ⟨g3, g4⟩ := rest_app g2
  simp only [List.length_replicate] at g3 g4
  have hle : i + sp + (digN n).length ≤ t := by have := g4.2; omega
  exact ⟨_, _, lex_num (by omega) (blanks_of g1) (by omega) hn g3 hle (next_of g4 hd), hr _ g4⟩
theorem st_end {a t i : Nat} {b : Nat → Nat} (h : restAt b t i []) : stream a b t [(0, 0)] i := by
  have : i = t := by have := h.2; simpa using this
  subst this
  exact ⟨_, _, lex_end (Nat.le_refl _) (fun j q1 q2 => by omega), trivial⟩
