-- ===== text: the class's reader begins =====
/-- the tokens on both sides: what text is read (a), the tape, how many people (n), the end's place (N) -/
def CX (a : Nat) (b : Nat → Nat) (t n N : Nat) (A0 B0 : ZI) : Prop := (tapB b t ∧ a ≤ 3 ∧ n ≤ 10) ∧ (N ≤ 400 ∧ tkS b t N = t ∧ ∀ q, q < N → tkS b t q < t) ∧ ((∀ q, q ≤ N → laid b t A0 q) ∧ A0 119 5 = znn (N + 1) ∧ A0 119 9 = znn n) ∧ (onB B0 b t ∧ B0 148 14 = znn a ∧ B0 149 48 = znn n)
def frA (A0 A : ZI) : Prop := (∀ o, o ≠ 119 → ¬ (124 ≤ o ∧ o ≤ 146) → A o = A0 o) ∧ ∀ j, j ≠ 6 → j ≠ 7 → j ≠ 8 → j ≠ 10 → j ≠ 11 → A 119 j = A0 119 j
def pcell (j : Nat) : Bool := decide (j ∈ [15, 16, 17, 18, 20, 21, 22, 23, 24, 25, 27, 29])
def frB (B0 B : ZI) : Prop := (∀ o, o ≠ 148 → ¬ (153 ≤ o ∧ o ≤ 157) → B o = B0 o) ∧ ∀ j, pcell j = false → B 148 j = B0 148 j
/-- both readers stand at the m-th token -/
def PS (a : Nat) (b : Nat → Nat) (t N : Nat) (A0 B0 A B : ZI) (m : Nat) : Prop := (frA A0 A ∧ frB B0 B ∧ m ≤ N) ∧ (A 119 6 = znn m ∧ A 119 7 = tkK b t m ∧ (tkK b t m = -2 → A 119 8 = znn (tkV b t m)) ∧ A 119 10 = 0 ∧ A 119 11 = -1) ∧ (B 148 22 = znn (tkS b t m) ∧ B 148 20 = znn (lexEnd b t (tkS b t m)) ∧ B 148 21 = tkT a b t m ∧ (tkK b t m = -2 → B 148 23 = znn (tkV b t m)))
/-- both have refused -/
def Bad (A0 B0 A B : ZI) : Prop := frA A0 A ∧ frB B0 B ∧ A 119 10 = B 148 24 ∧ A 119 11 = B 148 25
theorem fwd_cls {A : ZI} {m N : Nat} (h6 : A 119 6 + 1 = znn m) (h5 : A 119 5 = znn (N + 1)) (hm : m ≤ N) (hN : N ≤ 400) : f68_forward 119 A = some (zs (zs (zs A 119 6 (znn m)) 119 7 (A 121 m)) 119 8 (A 122 m)) := by
  unfold f68_forward
  have e1 : (zs A 119 6 (znn m)) 119 6 = znn m := by rw [zs_sm, if_pos rfl]
  have hz : zin (znn m) 401 = true := (zn_zin (by omega)).mpr (by omega)
  rw [h6, h5, if_pos ((zn_lt (by omega) (by omega)).mpr (by omega)), zlet_e, e1, if_pos hz, zn_zi (by omega), zlet_e, show (zs A 119 6 (znn m)) (119 + 2) m = A 121 m from by rw [zs_df (by decide)]]
  have e2 : (zs (zs A 119 6 (znn m)) 119 7 (A 121 m)) 119 6 = znn m := by rw [zs_sm, if_neg (by decide)]; exact e1
  rw [e2, if_pos hz, zn_zi (by omega), zlet_e, show (zs (zs A 119 6 (znn m)) 119 7 (A 121 m)) (119 + 3) m = A 122 m from by rw [zs_df (by decide), zs_df (by decide)]]
theorem lex_fact {b : Nat → Nat} {t s : Nat} (hb : tapB b t) : (lexKind b t s = -2 → s < t ∧ isDig (b s) = true ∧ ∀ a, lexTok a b t s = 2) := by
  intro h
  unfold lexKind at h
  by_cases hs : s < t
  · rw [if_pos hs] at h
    by_cases hl : isLet (b s) = true
    · rw [if_pos hl] at h
      have : ∀ d k, k + d ≤ 24 → kindOf b s (runEnd isLet b t (t - s) s) d k ≠ -2 := by
        intro d
        induction d with
        | zero => intro k _; unfold kindOf; decide
        | succ d ih =>
          intro k hk
          unfold kindOf
          split
          · exact zn_ne_neg2 (by omega)
          · exact ih (k + 1) (by omega)
      exact absurd h (this 24 0 (by omega))
    · rw [if_neg hl] at h
      by_cases hd : isDig (b s) = true
      · rw [if_pos hd] at h
        refine ⟨hs, hd, fun a => ?_⟩
        unfold lexTok
        rw [if_pos hs, if_neg hl, if_pos hd]
        by_cases h4 : 4 < runEnd isDig b t (t - s) s - s
        · rw [if_pos h4] at h
          exact absurd h (by decide)
        · rw [if_pos (by omega)]
      · rw [if_neg hd] at h
        have := hb.2 s hs
        split at h
        · exact absurd h (zn_ne_neg2 (by omega))
        · exact absurd h (by decide)
  · rw [if_neg hs] at h
    exact absurd h (by decide)
theorem frB_on {B0 B : ZI} {b : Nat → Nat} {t : Nat} (h : frB B0 B) (g : onB B0 b t) : onB B b t := ⟨by rw [h.2 19 rfl]; exact g.1, fun j hj => by rw [h.1 158 (by decide) (by omega)]; exact g.2 j hj⟩
theorem next_at {a : Nat} {b : Nat → Nat} {t i q : Nat} {B : ZI} (hb : tapB b t) (hB : onB B b t) (h14 : B 148 14 = znn a) (ha : a ≤ 3) (h20 : B 148 20 = znn i) (hi : i ≤ t) (hq : skB b t i = tkS b t q) : ∃ B', f157_next0 B = some B' ∧ (B' 148 22 = znn (tkS b t q) ∧ B' 148 20 = znn (lexEnd b t (tkS b t q)) ∧ B' 148 21 = tkT a b t q ∧ (tkK b t q = -2 → B' 148 23 = znn (tkV b t q))) ∧ (∀ o, o ≠ 148 → B' o = B o) ∧ ∀ j, j ≠ 20 → j ≠ 21 → j ≠ 22 → j ≠ 23 → B' 148 j = B 148 j := by
  obtain ⟨B', e1, e2, e3, e4, e5, e6, e7⟩ := next_ref hb hB h14 ha h20 hi
  rw [show runEnd isBlk b t (t - i) i = tkS b t q from hq] at e2 e3 e4 e5
  refine ⟨B', e1, ⟨e2, e3, e4, fun hk => ?_⟩, e6, e7⟩
  obtain ⟨k1, k2, k3⟩ := lex_fact (s := tkS b t q) hb hk
  exact e5 (k3 a) k1 k2
/-- both go on to the next token -/
theorem fwd {a : Nat} {b : Nat → Nat} {t n N m : Nat} {A0 B0 A B : ZI} (hC : CX a b t n N A0 B0) (h : PS a b t N A0 B0 A B m) (hm : m < N) :
    ∃ A' B', f68_forward 119 A = some A' ∧ f157_next0 B = some B' ∧ PS a b t N A0 B0 A' B' (m + 1) ∧ (∀ o, o ≠ 119 → A' o = A o) ∧ (∀ o, o ≠ 148 → B' o = B o) ∧ ∀ j, j ≠ 20 → j ≠ 21 → j ≠ 22 → j ≠ 23 → B' 148 j = B 148 j := by
  obtain ⟨⟨c1, c2, c3⟩, ⟨c4, c5, c6⟩, ⟨c7, c8, c9⟩, c10, c11, c12⟩ := hC
  obtain ⟨⟨p1, p2, p3⟩, ⟨p4, p5, p6, p6a, p6b⟩, p7, p8, p9, p10⟩ := h
  obtain ⟨B', e1, e2, e3, e4⟩ := next_at (q := m + 1) c1 (frB_on p2 c10) ((p2.2 14 rfl).trans c11) c2 p8 (lexEnd_bd (tkS_le m)).2.1 rfl
  have l := c7 (m + 1) (by omega)
  unfold laid at l
  rw [← p1.1 121 (by decide) (by omega), ← p1.1 122 (by decide) (by omega)] at l
  refine ⟨_, B', fwd_cls (m := m + 1) (by rw [p4, zadd1]) ((p1.2 5 (by decide) (by decide) (by decide) (by decide) (by decide)).trans c8) (by omega) c4, e1, ⟨⟨?_, ?_, by omega⟩, ⟨?_, ?_, ?_, ?_, ?_⟩, e2⟩, fun o ho => by rw [zs_df ho, zs_df ho, zs_df ho], e3, e4⟩
  · exact ⟨fun o o1 o2 => by rw [zs_df o1, zs_df o1, zs_df o1]; exact p1.1 o o1 o2, fun j j1 j2 j3 j4 j5 => by rw [zs_sm, if_neg j3, zs_sm, if_neg j2, zs_sm, if_neg j1]; exact p1.2 j j1 j2 j3 j4 j5⟩
  · exact ⟨fun o o1 o2 => (e3 o o1).trans (p2.1 o o1 o2), fun j hj => (e4 j (by rintro rfl; exact absurd hj (by decide)) (by rintro rfl; exact absurd hj (by decide)) (by rintro rfl; exact absurd hj (by decide)) (by rintro rfl; exact absurd hj (by decide))).trans (p2.2 j hj)⟩
  · rw [zs_sm, if_neg (by decide), zs_sm, if_neg (by decide), zs_sm, if_pos rfl]
  · rw [zs_sm, if_neg (by decide), zs_sm, if_pos rfl]
    exact l.1
  · rw [zs_sm, if_pos rfl]
    exact l.2.1
  · rw [zs_sm, if_neg (by decide), zs_sm, if_neg (by decide), zs_sm, if_neg (by decide)]; exact p6a
  · rw [zs_sm, if_neg (by decide), zs_sm, if_neg (by decide), zs_sm, if_neg (by decide)]; exact p6b
/-- both refuse at the token where they stand -/
theorem rfz {a : Nat} {b : Nat → Nat} {t n N m : Nat} {A0 B0 A B : ZI} (hC : CX a b t n N A0 B0) (h : PS a b t N A0 B0 A B m) (x : Int32) :
    ∃ A' B', f70_refuse 119 x A = some (0, A') ∧ f170_bad x B = some (0, B') ∧ Bad A0 B0 A' B' := by
  obtain ⟨⟨c1, c2, c3⟩, ⟨c4, c5, c6⟩, ⟨c7, c8, c9⟩, c10, c11, c12⟩ := hC
  obtain ⟨⟨p1, p2, p3⟩, ⟨p4, p5, p6, p6a, p6b⟩, p7, p8, p9, p10⟩ := h
  have l := (c7 m (by omega)).2.2
  rw [← p1.1 123 (by decide) (by omega)] at l
  refine ⟨zs (zs A 119 10 x) 119 11 (znn (tkS b t m)), zs (zs B 148 24 x) 148 25 (znn (tkS b t m)), ?_, ?_, ⟨?_, ?_, ?_, ?_⟩⟩
  · unfold f70_refuse
    have e1 : (zs A 119 10 x) 119 6 = znn m := by rw [zs_sm, if_neg (by decide)]; exact p4
    rw [zlet_e, e1, if_pos ((zn_zin (by omega)).mpr (by omega)), zn_zi (by omega), show (zs A 119 10 x) (119 + 4) m = znn (tkS b t m) from by rw [zs_df (by decide)]; exact l]
    rfl
  · unfold f170_bad
    have e1 : (zs B 148 24 x) 148 22 = znn (tkS b t m) := by rw [zs_sm, if_neg (by decide)]; exact p7
    rw [zlet_e, e1]
    rfl
  · exact ⟨fun o o1 o2 => by rw [zs_df o1, zs_df o1]; exact p1.1 o o1 o2, fun j j1 j2 j3 j4 j5 => by rw [zs_sm, if_neg j5, zs_sm, if_neg j4]; exact p1.2 j j1 j2 j3 j4 j5⟩
  · exact ⟨fun o o1 o2 => by rw [zs_df o1, zs_df o1]; exact p2.1 o o1 o2, fun j hj => by rw [zs_sm, if_neg (by rintro rfl; exact absurd hj (by decide)), zs_sm, if_neg (by rintro rfl; exact absurd hj (by decide))]; exact p2.2 j hj⟩
  · rw [zs_sm, if_neg (by decide), zs_sm, if_pos rfl, zs_sm, if_neg (by decide), zs_sm, if_pos rfl]
  · rw [zs_sm, if_pos rfl, zs_sm, if_pos rfl]
