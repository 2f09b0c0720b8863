-- ===== reading a known text forward: what the next token is =====
theorem runEnd_eq {P : Nat → Bool} {b : Nat → Nat} {t e : Nat} (he : e ≤ t) (stop : e = t ∨ P (b e) = false) : ∀ (m d i : Nat), i + m = e → m ≤ d → (∀ j, i ≤ j → j < e → P (b j) = true) → i + d ≤ t ∨ t ≤ i + d → t - i ≤ d → runEnd P b t d i = e := by
  intro m
  induction m with
  | zero =>
    intro d i h1 h2 h3 _ h5
    have : i = e := by omega
    subst this
    cases d with
    | zero => rfl
    | succ d =>
      unfold runEnd
      rcases stop with h | h
      · rw [if_neg (by rintro ⟨q, -⟩; omega)]
      · rw [if_neg (by rintro ⟨-, q⟩; rw [h] at q; cases q)]
  | succ m ih =>
    intro d i h1 h2 h3 h4 h5
    cases d with
    | zero => omega
    | succ d =>
      unfold runEnd
      rw [if_pos ⟨by omega, h3 i (Nat.le_refl _) (by omega)⟩]
      exact ih d (i + 1) (by omega) (by omega) (fun j q1 q2 => h3 j (by omega) q2) (by omega) (by omega)
theorem runEnd_to {P : Nat → Bool} {b : Nat → Nat} {t i e : Nat} (hie : i ≤ e) (he : e ≤ t) (stop : e = t ∨ P (b e) = false) (h : ∀ j, i ≤ j → j < e → P (b j) = true) : runEnd P b t (t - i) i = e :=
  runEnd_eq he stop (e - i) (t - i) i (by omega) (by omega) h (by omega) (by omega)
def segAt (b : Nat → Nat) (i : Nat) (w : List Nat) : Prop := ∀ j, j < w.length → b (i + j) = w.getD j 0
def wMatL (w : List Nat) (k : Nat) : Bool := decide (w.length = wl k) && (List.range (wl k)).all fun i => decide (w.getD i 0 = wc k i)
theorem wMat_eq {b : Nat → Nat} {s k : Nat} {w : List Nat} (h : segAt b s w) : wMatch b s (s + w.length) k = wMatL w k := by
  unfold wMatch wMatL
  rw [Nat.add_sub_cancel_left]
  by_cases hl : w.length = wl k
  · rw [decide_eq_true hl, Bool.true_and, Bool.true_and]
    have : ∀ i ∈ List.range (wl k), (decide (b (s + i) = wc k i)) = decide (w.getD i 0 = wc k i) := fun i hi => by rw [h i (by rw [hl]; exact List.mem_range.mp hi)]
    rw [Bool.eq_iff_iff, List.all_eq_true, List.all_eq_true]
    exact ⟨fun q x hx => by rw [← this x hx]; exact q x hx, fun q x hx => by rw [this x hx]; exact q x hx⟩
  · rw [decide_eq_false hl, Bool.false_and, Bool.false_and]
/-- from i on stands, after blanks, a token from s up to e of the kind T and, if a number, of the value V -/
def lexAt (a : Nat) (b : Nat → Nat) (t i s e : Nat) (T : Int32) (V : Nat) : Prop := s ≤ t ∧ e ≤ t ∧ i ≤ s ∧ runEnd isBlk b t (t - i) i = s ∧ lexEnd b t s = e ∧ lexTok a b t s = T ∧ (T = 2 → s < t ∧ isDig (b s) = true ∧ valN b s (e - s) = V)
theorem blanks_to {b : Nat → Nat} {t i s : Nat} (his : i ≤ s) (hs : s ≤ t) (hb : ∀ j, i ≤ j → j < s → b j = 32) (hn : s = t ∨ isBlk (b s) = false) : runEnd isBlk b t (t - i) i = s :=
  runEnd_to his hs hn (fun j q1 q2 => by rw [hb j q1 q2]; rfl)
theorem lex_word {a t i s : Nat} {b : Nat → Nat} {w : List Nat} (his : i ≤ s) (hb : ∀ j, i ≤ j → j < s → b j = 32) (hw : segAt b s w) (h0 : 0 < w.length) (hl : ∀ x ∈ w, isLet x = true) (he : s + w.length ≤ t) (hstop : s + w.length = t ∨ isLet (b (s + w.length)) = false) : lexAt a b t i s (s + w.length) (wordTok a (fun k => wMatL w k)) 0 ∨ wordTok a (fun k => wMatL w k) = 2 := by
  by_cases h2 : wordTok a (fun k => wMatL w k) = 2
  · exact Or.inr h2
  have hlet : ∀ j, s ≤ j → j < s + w.length → isLet (b j) = true := fun j q1 q2 => by
    have := hw (j - s) (by omega)
    rw [show s + (j - s) = j by omega] at this
    rw [this]
    refine hl _ ?_
    rw [List.getD_eq_getElem?_getD, List.getElem?_eq_getElem (by omega)]
    exact List.getElem_mem _
  have hs0 := hlet s (Nat.le_refl _) (by omega)
  have hblk : isBlk (b s) = false := by
    cases h : isBlk (b s) with
    | false => rfl
    | true =>
      exfalso
      have : b s = 32 ∨ b s = 10 := by simpa [isBlk] using h
      rcases this with e | e <;> rw [e] at hs0 <;> exact absurd hs0 (by decide)
  have hend : runEnd isLet b t (t - s) s = s + w.length := runEnd_to (by omega) he hstop hlet
  refine Or.inl ⟨by omega, he, his, blanks_to his (by omega) hb (Or.inr hblk), ?_, ?_, fun h => absurd h h2⟩
  · unfold lexEnd
    rw [if_pos (by omega), if_pos hs0, hend]
  · unfold lexTok
    rw [if_pos (by omega), if_pos hs0, hend]
    congr 1
    funext k
    exact wMat_eq hw
theorem lex_sign {a t i s : Nat} {b : Nat → Nat} {x : Nat} (his : i ≤ s) (hb : ∀ j, i ≤ j → j < s → b j = 32) (hx : b s = x) (hs : s < t) (hsg : signB x = true) : lexAt a b t i s (s + 1) (100 + znn x) 0 ∨ 100 + znn x = 2 := by
  by_cases h2 : 100 + znn x = 2
  · exact Or.inr h2
  have h4 : isLet x = false ∧ isDig x = false ∧ isBlk x = false := by
    have : x = 59 ∨ x = 43 ∨ x = 45 ∨ x = 42 ∨ x = 47 ∨ x = 40 ∨ x = 41 ∨ x = 60 ∨ x = 61 ∨ x = 62 := by
      simp [signB] at hsg
      omega
    rcases this with rfl | rfl | rfl | rfl | rfl | rfl | rfl | rfl | rfl | rfl <;> decide
  refine Or.inl ⟨by omega, by omega, his, blanks_to his (by omega) hb (Or.inr (by rw [hx]; exact h4.2.2)), ?_, ?_, fun h => absurd h h2⟩
  · unfold lexEnd
    rw [if_pos hs, hx, if_neg (by rw [h4.1]; decide), if_neg (by rw [h4.2.1]; decide)]
  · unfold lexTok
    rw [if_pos hs, hx, if_neg (by rw [h4.1]; decide), if_neg (by rw [h4.2.1]; decide), if_pos hsg]
theorem lex_end {a t i : Nat} {b : Nat → Nat} (hi : i ≤ t) (hb : ∀ j, i ≤ j → j < t → b j = 32) : lexAt a b t i t t 0 0 := by
  refine ⟨Nat.le_refl _, Nat.le_refl _, hi, blanks_to hi (Nat.le_refl _) hb (Or.inl rfl), ?_, ?_, fun h => absurd h (by decide)⟩
  · unfold lexEnd
    rw [if_neg (Nat.lt_irrefl _)]
  · unfold lexTok
    rw [if_neg (Nat.lt_irrefl _)]
/-- a number up to 99 -/
def digN (n : Nat) : List Nat := if n < 10 then [48 + n] else [48 + n / 10, 48 + n % 10]
theorem lex_num {a t i s n : Nat} {b : Nat → Nat} (his : i ≤ s) (hb : ∀ j, i ≤ j → j < s → b j = 32) (hn : n < 1000) (hn2 : n < 100) (hw : segAt b s (digN n)) (he : s + (digN n).length ≤ t) (hstop : s + (digN n).length = t ∨ isDig (b (s + (digN n).length)) = false) : lexAt a b t i s (s + (digN n).length) 2 n := by
  have hd : ∀ x ∈ digN n, isDig x = true := fun x hx => by
    unfold digN at hx
    split at hx
    · simp at hx; subst hx; simp [isDig]; omega
    · simp at hx
      rcases hx with hx | hx <;> subst hx <;> simp [isDig] <;> omega
  have hl : 0 < (digN n).length ∧ (digN n).length ≤ 2 := by unfold digN; split <;> simp
  have hdig : ∀ j, s ≤ j → j < s + (digN n).length → isDig (b j) = true := fun j q1 q2 => by
    have := hw (j - s) (by omega)
    rw [show s + (j - s) = j by omega] at this
    rw [this]
    refine hd _ ?_
    rw [List.getD_eq_getElem?_getD, List.getElem?_eq_getElem (by omega)]
    exact List.getElem_mem _
  have hs0 := hdig s (Nat.le_refl _) (by omega)
  have hlet : isLet (b s) = false := by
    cases h : isLet (b s) with
    | false => rfl
    | true => simp [isLet] at h; simp [isDig] at hs0; omega
  have hblk : isBlk (b s) = false := by
    cases h : isBlk (b s) with
    | false => rfl
    | true => simp [isBlk] at h; simp [isDig] at hs0; omega
  have hend : runEnd isDig b t (t - s) s = s + (digN n).length := runEnd_to (by omega) he hstop hdig
  refine ⟨by omega, he, his, blanks_to his (by omega) hb (Or.inr hblk), ?_, ?_, fun _ => ⟨by omega, hs0, ?_⟩⟩
  · unfold lexEnd
    rw [if_pos (by omega), if_neg (by rw [hlet]; decide), if_pos hs0, hend]
  · unfold lexTok
    rw [if_pos (by omega), if_neg (by rw [hlet]; decide), if_pos hs0, hend, Nat.add_sub_cancel_left, if_pos (by omega)]
  · rw [Nat.add_sub_cancel_left]
    by_cases h10 : n < 10
    · have e : digN n = [48 + n] := by unfold digN; rw [if_pos h10]
      rw [e] at hw ⊢
      have h0 := hw 0 (by simp)
      simp at h0
      simp only [List.length_cons, List.length_nil, valN, Nat.add_zero, h0]
      omega
    · have e : digN n = [48 + n / 10, 48 + n % 10] := by unfold digN; rw [if_neg h10]
      rw [e] at hw ⊢
      have h0 := hw 0 (by simp)
      have h1 := hw 1 (by simp)
      simp at h0 h1
      simp only [List.length_cons, List.length_nil, valN, Nat.add_zero, h0, h1]
      omega
/-- the reference at the next token -/
theorem next_tok {a t i s e V : Nat} {b : Nat → Nat} {B : ZI} {T : Int32} (hb : tapB b t) (hB : onB B b t) (h14 : B 148 14 = znn a) (ha : a ≤ 3) (h20 : B 148 20 = znn i) (hi : i ≤ t) (hl : lexAt a b t i s e T V) : ∃ B', f157_next0 B = some B' ∧ B' 148 20 = znn e ∧ B' 148 21 = T ∧ B' 148 22 = znn s ∧ (T = 2 → B' 148 23 = znn V) ∧ (∀ o, o ≠ 148 → B' o = B o) ∧ ∀ j, j ≠ 20 → j ≠ 21 → j ≠ 22 → j ≠ 23 → B' 148 j = B 148 j := by
  obtain ⟨l1, l2, l3, l4, l5, l6, l7⟩ := hl
  obtain ⟨B', h1, h2, h3, h4, h5, h6, h7⟩ := next_ref hb hB h14 ha h20 hi
  rw [l4] at h2 h3 h4 h5
  rw [l5] at h3 h5
  rw [l6] at h4 h5
  refine ⟨B', h1, h3, h4, h2, fun hT => ?_, h6, h7⟩
  obtain ⟨q1, q2, q3⟩ := l7 hT
  rw [h5 hT q1 q2, q3]
