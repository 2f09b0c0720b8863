-- ===== THE COUNCIL as a text, and text(3) =====
def parTx (c : Bool) (x : List Nat) : List Nat := if c = true then [40] ++ (x ++ [41]) else x
def rTx (n : Nat) : Nat → Int32 × Nat → List Nat
  | 0, y => if nK y = 0 then digN (nO n y) else [109, 111, 115, 116, 32] ++ digN (nO n y)
  | f + 1, y => if nK y = 0 then digN (nO n y) else if nK y = 1 then [109, 111, 115, 116, 32] ++ digN (nO n y) else parTx (decide (nK y = 2 ∧ nK (nL y) = 3)) (rTx n f (nL y)) ++ ((if nK y = 2 then [32, 97, 110, 100, 32] else [32, 111, 114, 32]) ++ parTx (decide (1 < nK (nR y))) (rTx n f (nR y)))
theorem nO_100 {n : Nat} (h0 : 0 < n) (hn : n ≤ 10) (y : Int32 × Nat) : nO n y < 100 := by
  by_cases h : nK y = 0
  · have := (nO_lt h0 y).1 h; omega
  · have := (nO_lt h0 y).2 h; omega
theorem leaf_stream {t n i : Nat} {b : Nat → Nat} {y : Int32 × Nat} {l : List (Int32 × Nat)} {rest : List Nat} (h0 : 0 < n) (hn : n ≤ 10) (hk : nK y < 2) (f : Nat) (h : restAt b t i (rTx n f y ++ rest)) (hd : isDig (rest.headD 0) = false) (hr : ∀ e, restAt b t e rest → stream 3 b t l e) : stream 3 b t (rTk n f y l) i := by
  have hT : rTx n f y = if nK y = 0 then digN (nO n y) else [109, 111, 115, 116, 32] ++ digN (nO n y) := by
    cases f with
    | zero => rfl
    | succ f =>
      unfold rTx
      by_cases h1 : nK y = 0
      · rw [if_pos h1, if_pos h1]
      · rw [if_neg h1, if_pos (by omega), if_neg h1]
  rw [hT] at h
  rw [(leaf_tk (n := n) hk f l).1]
  by_cases h1 : nK y = 0
  · rw [if_pos h1] at h
    rw [if_neg (by simp [h1])]
    exact st_num (sp := 0) h (nO_100 h0 hn y) hd hr
  · have h2 : nK y = 1 := by omega
    rw [if_neg h1, List.append_assoc] at h
    rw [if_pos (by simp [h2])]
    refine st_word (sp := 0) (w := [109, 111, 115, 116]) (rest := 32 :: (digN (nO n y) ++ rest)) h (by decide) (by decide) rfl (by decide) (by decide) (fun e h => ?_)
    exact st_num (sp := 1) h (nO_100 h0 hn y) hd hr
theorem par_stream {t i : Nat} {b : Nat → Nat} {c : Bool} {F : List (Int32 × Nat) → List (Int32 × Nat)} {x : List Nat} (hF : ∀ (rest : List Nat) (l : List (Int32 × Nat)) (i : Nat), restAt b t i (x ++ rest) → isDig (rest.headD 0) = false → (∀ e, restAt b t e rest → stream 3 b t l e) → stream 3 b t (F l) i) {rest : List Nat} {l : List (Int32 × Nat)} (h : restAt b t i (parTx c x ++ rest)) (hd : isDig (rest.headD 0) = false) (hr : ∀ e, restAt b t e rest → stream 3 b t l e) : stream 3 b t (if c = true then (140, 0) :: F ((141, 0) :: l) else F l) i := by
  unfold parTx at h
  cases c with
  | false => exact hF rest l i h hd hr
  | true =>
    simp only [if_true, List.append_assoc] at h ⊢
    refine st_sign (sp := 0) (x := 40) h (by decide) (by decide) (by decide) (fun e h => ?_)
    refine hF ([41] ++ rest) _ e h rfl (fun e h => ?_)
    exact st_sign (sp := 0) (x := 41) h (by decide) (by decide) (by decide) hr
theorem stream_blank {a t i : Nat} {b : Nat → Nat} {rest : List Nat} (l : List (Int32 × Nat)) (h : restAt b t i (32 :: rest)) (hs : ∀ e, restAt b t e rest → stream a b t l e) : stream a b t l i := by
  have h1 : restAt b t i ([32] ++ rest) := h
  obtain ⟨g1, g2⟩ := rest_app h1
  have hb : b i = 32 := by
    have := g1 0 (by simp)
    simpa using this
  have hlt : i < t := by have := h.2; simp at this; omega
  have h2 := hs (i + 1) g2
  cases l with
  | nil => trivial
  | cons q l =>
    obtain ⟨s, e, ⟨l1, l2, l3, l4, l5, l6, l7⟩, hr⟩ := h2
    refine ⟨s, e, ⟨l1, l2, by omega, ?_, l5, l6, l7⟩, hr⟩
    obtain ⟨k, hk⟩ : ∃ k, t - i = k + 1 := ⟨t - i - 1, by omega⟩
    rw [hk, runEnd, if_pos ⟨hlt, by rw [hb]; rfl⟩, ← l4]
    congr 1
    omega
theorem r_stream {t n : Nat} {b : Nat → Nat} (h0 : 0 < n) (hn : n ≤ 10) : ∀ f (y : Int32 × Nat), y.2 + f = 3 → ∀ (rest : List Nat) (l : List (Int32 × Nat)) (i : Nat), restAt b t i (rTx n f y ++ rest) → isDig (rest.headD 0) = false → (∀ e, restAt b t e rest → stream 3 b t l e) → stream 3 b t (rTk n f y l) i := by
  intro f
  induction f with
  | zero =>
    intro y hy rest l i h hd hr
    exact leaf_stream h0 hn ((nK_lt y).2 (by omega)) 0 h hd hr
  | succ f ih =>
    intro y hy rest l i h hd hr
    have ihl := ih (nL y) (by show y.2 + 1 + f = 3; omega)
    have ihr := ih (nR y) (by show y.2 + 1 + f = 3; omega)
    by_cases hk : nK y < 2
    · exact leaf_stream h0 hn hk (f + 1) h hd hr
    · have hk4 := (nK_lt y).1
      unfold rTx at h
      rw [if_neg (by omega), if_neg (by omega)] at h
      have hR : ∀ e, restAt b t e (parTx (decide (1 < nK (nR y))) (rTx n f (nR y)) ++ rest) → stream 3 b t (brTk n f (nR y) l) e := fun e h => by
        have := par_stream (F := rTk n f (nR y)) ihr h hd hr
        unfold brTk
        by_cases h1 : 1 < nK (nR y)
        · rw [if_pos (by simp [h1])] at this
          rw [if_pos h1]
          exact this
        · rw [if_neg (by simp [h1])] at this
          rw [if_neg h1]
          exact this
      by_cases h2 : nK y = 2
      · rw [(tk_two (n := n) (f := f) (r := l) h2).1]
        rw [if_pos h2, List.append_assoc, List.append_assoc] at h
        have hO : ∀ e, restAt b t e ([32, 97, 110, 100, 32] ++ (parTx (decide (1 < nK (nR y))) (rTx n f (nR y)) ++ rest)) → stream 3 b t ((5, 0) :: brTk n f (nR y) l) e := fun e h => by
          refine st_word (sp := 1) (w := [97, 110, 100]) (rest := 32 :: (parTx (decide (1 < nK (nR y))) (rTx n f (nR y)) ++ rest)) h (by decide) (by decide) rfl (by decide) (by decide) (fun e h => ?_)
          exact stream_blank _ h hR
        have := par_stream (F := rTk n f (nL y)) ihl h rfl hO
        unfold brTk at this ⊢
        by_cases h3 : nK (nL y) = 3
        · rw [if_pos (by simp [h2, h3])] at this
          rw [if_pos h3, if_pos (by omega)]
          exact this
        · rw [if_neg (by simp [h3])] at this
          rw [if_neg h3]
          exact this
      · rw [(tk_three (n := n) (f := f) (r := l) (by omega)).1]
        rw [if_neg h2, List.append_assoc, List.append_assoc] at h
        have hO : ∀ e, restAt b t e ([32, 111, 114, 32] ++ (parTx (decide (1 < nK (nR y))) (rTx n f (nR y)) ++ rest)) → stream 3 b t ((4, 0) :: brTk n f (nR y) l) e := fun e h => by
          refine st_word (sp := 1) (w := [111, 114]) (rest := 32 :: (parTx (decide (1 < nK (nR y))) (rTx n f (nR y)) ++ rest)) h (by decide) (by decide) rfl (by decide) (by decide) (fun e h => ?_)
          exact stream_blank _ h hR
        have := par_stream (F := rTk n f (nL y)) ihl h rfl hO
        rw [if_neg (by simp [h2])] at this
        exact this
theorem rTk_hd (n : Nat) : ∀ f y q l, ∃ z m, rTk n f y (q :: l) = z :: m ∧ z.1 ≠ 0
  | 0, y, q, l => by
    unfold rTk
    split
    · exact ⟨_, _, rfl, (show ¬ (_ : Int32) = 0 by first | exact (show ¬ (2 : Int32) = 0 by decide) | exact (show ¬ (14 : Int32) = 0 by decide) | exact (show ¬ (140 : Int32) = 0 by decide))⟩
    · exact ⟨_, _, rfl, (show ¬ (_ : Int32) = 0 by first | exact (show ¬ (2 : Int32) = 0 by decide) | exact (show ¬ (14 : Int32) = 0 by decide) | exact (show ¬ (140 : Int32) = 0 by decide))⟩
  | f + 1, y, q, l => by
    unfold rTk
    split
    · exact ⟨_, _, rfl, (show ¬ (_ : Int32) = 0 by first | exact (show ¬ (2 : Int32) = 0 by decide) | exact (show ¬ (14 : Int32) = 0 by decide) | exact (show ¬ (140 : Int32) = 0 by decide))⟩
    · split
      · exact ⟨_, _, rfl, (show ¬ (_ : Int32) = 0 by first | exact (show ¬ (2 : Int32) = 0 by decide) | exact (show ¬ (14 : Int32) = 0 by decide) | exact (show ¬ (140 : Int32) = 0 by decide))⟩
      · split
        · split
          · exact ⟨_, _, rfl, (show ¬ (_ : Int32) = 0 by first | exact (show ¬ (2 : Int32) = 0 by decide) | exact (show ¬ (14 : Int32) = 0 by decide) | exact (show ¬ (140 : Int32) = 0 by decide))⟩
          · exact rTk_hd n f _ _ _
        · exact rTk_hd n f _ _ _
/-- the council's rule of the draw x: its text, in brackets or not, its steps, its size -/
def cTx (n : Nat) (x : Int32) (c : Bool) : List Nat := parTx (c && decide (1 < nK (x, 0))) (rTx n 3 (x, 0))
def cCd (n : Nat) (x : Int32) : List Nat := rCd n 3 (x, 0)
def cSz (x : Int32) : Nat := rSz 3 (x, 0)
theorem text_council {B : ZI} {b : Nat → Nat} {t n : Nat} {x : Int32} {c : Bool} (hb : tapB b t) (hB : onB B b t) (h0 : 0 < n) (hn : n ≤ 10) (h48 : B 149 48 = znn n) (hr : restAt b t 0 (cTx n x c)) : ∃ B', f156_text 3 B = some (znn (cSz x), B') ∧ (∀ o, o ≠ 148 → o ≠ 149 → o ≠ 157 → B' o = B o) ∧ B' 149 53 = znn (cSz x) ∧ B' 149 54 = znn (cCd n x).length ∧ (∀ i, i < (cCd n x).length → B' 149 (162 + i) = znn ((cCd n x).getD i 0)) ∧ (∀ j, j ≠ 53 → j ≠ 54 → ¬ (162 ≤ j ∧ j < 562) → B' 149 j = B 149 j) ∧ B' 148 19 = 0 ∧ B' 148 4 = B 148 4 := by
  have hz := zfu_eq
  let T := if (c && decide (1 < nK (x, 0))) = true then (140, 0) :: rTk n 3 (x, 0) ((141, 0) :: [(0, 0)]) else rTk n 3 (x, 0) [(0, 0)]
  have hst : stream 3 b t T 0 := by
    have h1 : restAt b t 0 (parTx (c && decide (1 < nK (x, 0))) (rTx n 3 (x, 0)) ++ []) := by rw [List.append_nil]; exact hr
    exact par_stream (F := rTk n 3 (x, 0)) (r_stream h0 hn 3 (x, 0) rfl) h1 rfl (fun e h => st_end h)
  obtain ⟨z, m, hzm, hz0⟩ : ∃ z m, T = z :: m ∧ z.1 ≠ 0 := by
    dsimp only [T]
    split
    · exact ⟨_, _, rfl, by decide⟩
    · exact rTk_hd n 3 _ _ _
  obtain ⟨B7, n1, n2, n3, n4⟩ := text_gen (by decide) hb hB (by rw [hzm]; exact List.cons_ne_nil _ _) hst
  obtain ⟨hR3, -, hR2⟩ := rule_run hb h0 hn 3 (x, 0) rfl
  have hrun : ∃ k, RunsE b t n 0 (f188_aRule zgf) (f188_l9 (f189_anyOf (zgf - 1)) (k + 1)) T [(0, 0)] (rCd n 3 (x, 0)) (rSz 3 (x, 0)) := by
    by_cases hc : (c && decide (1 < nK (x, 0))) = true
    · have h1 : 1 < nK (x, 0) := by simp at hc; exact hc.2
      have hA := any_of_one (F := zgf - 2) (hR3 0 (zgf - 2) (0, 0) [] (by decide) (by decide))
      obtain ⟨k, hk⟩ : ∃ k, zfu = k + 1 := ⟨zfu - 1, by omega⟩
      rw [hk] at hA
      have := rule_of_any (F := zgf - 1) (by decide) hA
      rw [hk] at this
      refine ⟨k, ?_⟩
      have hT : T = brTk n 3 (x, 0) [(0, 0)] := by
        dsimp only [T, brTk]
        rw [if_pos hc, if_pos h1]
      rw [hT]
      exact this
    · obtain ⟨q, hq, hA⟩ := hR2 0 zgf (0, 0) [] (by decide) (by decide) (by decide)
      obtain ⟨k, hk⟩ : ∃ k, zfu - q = k + 1 := ⟨zfu - q - 1, by omega⟩
      rw [hk] at hA
      refine ⟨k, ?_⟩
      dsimp only [T]
      rw [if_neg hc]
      exact hA
  obtain ⟨k, hrun⟩ := hrun
  have hrun2 := re_as (re_seq hrun (or_stop (by decide))) (List.append_nil _) (Nat.add_zero _)
  have hP0 : pT 3 b t (zs (zs (zs B7 148 17 0) 148 18 0) 148 27 0) T := pT_of n1 (by simp only [zs_df (show (158 : Nat) ≠ 148 by decide)]) (fun j hj => by simp only [zs_sm]; rw [if_neg (by omega), if_neg (by omega), if_neg (by omega)])
  have e149 : (zs (zs (zs B7 148 17 0) 148 18 0) 148 27 0) 149 = B 149 := by rw [zs_df (by decide), zs_df (by decide), zs_df (by decide), n2 149 (by decide)]
  have hlen := rCd_len n 3 (x, 0)
  have hsz := (rSz_le 3 (x, 0)).1
  obtain ⟨B9, r1, r2, ⟨r3, r4, r5, r6, r7, r8⟩, r9⟩ := hrun2 _ [] 0 hP0 ⟨by rw [e149]; exact h48, by simp only [zs_sm]; rfl, by simp only [zs_sm]; rfl, by simp only [zs_sm]; rfl, by decide, fun i hi => by simp at hi⟩ (by simp; omega) (by omega)
  rw [List.nil_append] at r5 r7 r8
  rw [Nat.zero_add] at r4
  have h21 : (zs (zs (zs B7 148 17 0) 148 18 0) 148 27 0) 148 21 ≠ 0 := by
    rw [hzm] at hP0
    rw [hP0.2.2.1]
    exact hz0
  obtain ⟨B', p1, p2, p3, p4, p5, p6⟩ := puts_council (M := zs B9 148 19 0) (p := rSz 3 (x, 0)) (c := (rCd n 3 (x, 0)).length) (by rw [zs_sm, if_neg (by decide)]; exact r4) (by rw [zs_sm, if_neg (by decide)]; exact r5) (by omega)
  refine ⟨B', n4 B9 _ B' ?_ ?_, fun o q1 q2 q3 => ?_, p3, p4, fun i hi => ?_, fun j q1 q2 q3 => ?_, ?_, ?_⟩
  · show f167_reads 3 B7 = _
    unfold f167_reads
    rw [if_neg (by decide), if_neg (by decide), if_neg (by decide)]
    unfold f187_readsCouncil
    simp only [zlet]
    rw [if_neg h21, r1]
    unfold rOne
    simp only [Option.bind_some]
    rw [if_neg (by decide), if_pos (show B9 148 21 = 0 from r2.2.2.1)]
    rfl
  · show f192_putsText 3 _ = _
    unfold f192_putsText
    rw [if_neg (by decide), if_neg (by decide), if_neg (by decide), p1]
    rfl
  · rw [p2 o q2, zs_df q1, r9.1 o q1 q3]
    simp only [zs_df q1]
    exact n2 o q1
  · rw [p5 i hi, zs_df (by decide)]
    exact r8 i hi
  · rw [p6 j q1 q2 q3, zs_df (by decide), r9.1 149 (by decide) (by decide), e149]
  · rw [p2 148 (by decide), zs_sm, if_pos rfl]
  · rw [p2 148 (by decide), zs_sm, if_neg (by decide), r9.2 4 (by decide) (by decide) (by decide) (by decide) (by decide) (by decide) (by decide) (by decide)]
    simp only [zs_sm]
    rw [if_neg (by decide), if_neg (by decide), if_neg (by decide)]
    exact n3 4 (by decide) (by decide) (by decide) (by decide) (by decide) (by decide) (by decide) (by decide)
/-- no council -/
theorem text_none {B : ZI} {b : Nat → Nat} {t : Nat} (hb : tapB b t) (hB : onB B b t) (hr : restAt b t 0 []) : ∃ B', f156_text 3 B = some (0, B') ∧ (∀ o, o ≠ 148 → o ≠ 149 → B' o = B o) ∧ B' 149 53 = 0 ∧ B' 149 54 = 0 ∧ (∀ j, j ≠ 53 → j ≠ 54 → ¬ (162 ≤ j ∧ j < 562) → B' 149 j = B 149 j) ∧ B' 148 19 = 0 ∧ B' 148 4 = B 148 4 := by
  obtain ⟨B7, n1, n2, n3, n4⟩ := text_gen (a := 3) (by decide) hb hB (List.cons_ne_nil _ _) (st_end hr)
  obtain ⟨B', p1, p2, p3, p4, p5, p6⟩ := puts_council (M := zs (zs (zs (zs B7 148 17 0) 148 18 0) 148 27 0) 148 19 0) (p := 0) (c := 0) (by simp only [zs_sm]; rfl) (by simp only [zs_sm]; rfl) (by decide)
  refine ⟨B', n4 (zs (zs (zs B7 148 17 0) 148 18 0) 148 27 0) _ B' ?_ ?_, fun o q1 q2 => ?_, p3, p4, fun j q1 q2 q3 => ?_, ?_, ?_⟩
  · show f167_reads 3 B7 = _
    unfold f167_reads
    rw [if_neg (by decide), if_neg (by decide), if_neg (by decide)]
    unfold f187_readsCouncil
    simp only [zlet]
    rw [if_pos (by simp only [zs_sm]; exact n1.2.2.1)]
    rfl
  · show f192_putsText 3 _ = _
    unfold f192_putsText
    rw [if_neg (by decide), if_neg (by decide), if_neg (by decide), p1]
    rfl
  · rw [p2 o q2]
    simp only [zs_df q1]
    exact n2 o q1
  · rw [p6 j q1 q2 q3]
    simp only [zs_df (show (149 : Nat) ≠ 148 by decide)]
    rw [n2 149 (by decide)]
  · rw [p2 148 (by decide), zs_sm, if_pos rfl]
  · rw [p2 148 (by decide)]
    simp only [zs_sm]
    rw [if_neg (by decide), if_neg (by decide), if_neg (by decide), if_neg (by decide)]
    exact n3 4 (by decide) (by decide) (by decide) (by decide) (by decide) (by decide) (by decide) (by decide)
