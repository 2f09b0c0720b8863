-- ===== the whole rule, read forward =====
theorem re_as {b : Nat → Nat} {t n d : Nat} {F G : ZI → Option (Int32 × ZI)} {l l1 : List (Int32 × Nat)} {c c' : List Nat} {s s' : Nat} (h : RunsE b t n d F G l l1 c s) (hc : c = c') (hs : s = s') : RunsE b t n d F G l l1 c' s' := by
  subst hc hs
  exact h
def brTk (n f : Nat) (y : Int32 × Nat) (r : List (Int32 × Nat)) : List (Int32 × Nat) := if 1 < nK y then (140, 0) :: rTk n f y ((141, 0) :: r) else rTk n f y r
theorem brTk_ne (n f : Nat) (y : Int32 × Nat) (q : Int32 × Nat) (l : List (Int32 × Nat)) : ∃ z m, brTk n f y (q :: l) = z :: m := by
  unfold brTk
  split
  · exact ⟨_, _, rfl⟩
  · exact rTk_ne n f y q l
theorem leaf_tk {n : Nat} {y : Int32 × Nat} (h : nK y < 2) : ∀ f r, rTk n f y r = (if decide (nK y = 1) = true then (14, 0) :: (2, nO n y) :: r else (2, nO n y) :: r) ∧ rCd n f y = [if decide (nK y = 1) = true then 20 + nO n y else nO n y] ∧ rSz f y = 1
  | 0, r => by
    unfold rTk rCd rSz
    by_cases h0 : nK y = 0
    · simp [h0]
    · have h1 : nK y = 1 := by omega
      simp [h1]
  | f + 1, r => by
    unfold rTk rCd rSz
    by_cases h0 : nK y = 0
    · simp [h0]
    · have h1 : nK y = 1 := by omega
      simp [h1]
theorem tk_two {n f : Nat} {y : Int32 × Nat} {r : List (Int32 × Nat)} (h : nK y = 2) : rTk n (f + 1) y r = (if nK (nL y) = 3 then brTk n f (nL y) ((5, 0) :: brTk n f (nR y) r) else rTk n f (nL y) ((5, 0) :: brTk n f (nR y) r)) ∧ rCd n (f + 1) y = rCd n f (nL y) ++ (rCd n f (nR y) ++ [40]) ∧ rSz (f + 1) y = rSz f (nL y) + rSz f (nR y) := by
  refine ⟨?_, ?_, ?_⟩
  · unfold brTk
    rw [rTk, if_neg (by omega), if_neg (by omega), if_pos h]
    by_cases h3 : nK (nL y) = 3
    · rw [if_pos h3, if_pos h3, if_pos (show 1 < nK (nL y) by omega)]
    · rw [if_neg h3, if_neg h3]
  · rw [rCd, if_neg (by omega), if_neg (by omega), if_pos h]
  · rw [rSz, if_neg (by omega)]
theorem tk_three {n f : Nat} {y : Int32 × Nat} {r : List (Int32 × Nat)} (h : nK y = 3) : rTk n (f + 1) y r = rTk n f (nL y) ((4, 0) :: brTk n f (nR y) r) ∧ rCd n (f + 1) y = rCd n f (nL y) ++ (rCd n f (nR y) ++ [41]) ∧ rSz (f + 1) y = rSz f (nL y) + rSz f (nR y) := by
  refine ⟨?_, ?_, ?_⟩
  · unfold brTk
    rw [rTk, if_neg (by omega), if_neg (by omega), if_neg (by omega)]
  · rw [rCd, if_neg (by omega), if_neg (by omega), if_neg (by omega)]
  · rw [rSz, if_neg (by omega)]
theorem and_step {b : Nat → Nat} {t n d k s : Nat} {g : ZI → Option (Int32 × ZI)} {z : Int32 × Nat} {m l' : List (Int32 × Nat)} {c : List Nat} (hb : tapB b t) (h : RunsE b t n d g rOne (z :: m) l' c s) : RunsE b t n d (f189_l9 g (k + 1)) (f189_l9 g k) ((5, 0) :: z :: m) l' (c ++ [40]) s := by
  refine re_as (re_seq (G := fun M4 => (g M4).bind fun x => if x.1 = 0 then some ((0 : Int32), x.2) else (f191_rules (40 : Int32) x.2).bind fun M7 => f189_l9 g k M7) (re_next hb (fun B B1 hB e => ?_)) (re_seq (re_eq (G' := fun B => (f191_rules (40 : Int32) B).bind fun M7 => f189_l9 g k M7) h (fun B B1 e => ?_)) (re_lay (v := 40) (fun B B1 e => ?_)))) rfl (by omega)
  · simp only [f189_l9]
    rw [hB, if_pos rfl, e]
    rfl
  · rw [e]
    unfold rOne
    simp only [Option.bind_some]
    rw [if_neg (by decide)]
  · show (f191_rules (znn 40) B).bind _ = _
    rw [e]; rfl
theorem or_step {b : Nat → Nat} {t n d k s : Nat} {g : ZI → Option (Int32 × ZI)} {z : Int32 × Nat} {m l' : List (Int32 × Nat)} {c : List Nat} (hb : tapB b t) (h : RunsE b t n d g rOne (z :: m) l' c s) : RunsE b t n d (f188_l9 g (k + 1)) (f188_l9 g k) ((4, 0) :: z :: m) l' (c ++ [41]) s := by
  refine re_as (re_seq (G := fun M4 => (g M4).bind fun x => if x.1 = 0 then some ((0 : Int32), x.2) else (f191_rules (41 : Int32) x.2).bind fun M7 => f188_l9 g k M7) (re_next hb (fun B B1 hB e => ?_)) (re_seq (re_eq (G' := fun B => (f191_rules (41 : Int32) B).bind fun M7 => f188_l9 g k M7) h (fun B B1 e => ?_)) (re_lay (v := 41) (fun B B1 e => ?_)))) rfl (by omega)
  · simp only [f188_l9]
    rw [hB, if_pos rfl, e]
    rfl
  · rw [e]
    unfold rOne
    simp only [Option.bind_some]
    rw [if_neg (by decide)]
  · show (f191_rules (znn 41) B).bind _ = _
    rw [e]; rfl
theorem any_of_one {b : Nat → Nat} {t n d s F : Nat} {l l' : List (Int32 × Nat)} {c : List Nat} (h : RunsE b t n d (f190_oneOf F) rOne l l' c s) : RunsE b t n d (f189_anyOf (F + 1)) (f189_l9 (f190_oneOf F) zfu) l l' c s :=
  re_eq h (fun B B1 e => by
    rw [fe189]
    unfold f189_anyOf_b
    rw [e]
    unfold rOne
    simp only [Option.bind_some]
    rw [if_neg (by decide)])
theorem and_stop {b : Nat → Nat} {t n d k : Nat} {g : ZI → Option (Int32 × ZI)} {q : Int32 × Nat} {l : List (Int32 × Nat)} (h : q.1 ≠ 5) : RunsE b t n d (f189_l9 g (k + 1)) rOne (q :: l) (q :: l) [] 0 :=
  re_id (fun B hB => by
    simp only [f189_l9]
    rw [hB, if_neg h]
    rfl)
theorem or_stop {b : Nat → Nat} {t n d k : Nat} {g : ZI → Option (Int32 × ZI)} {q : Int32 × Nat} {l : List (Int32 × Nat)} (h : q.1 ≠ 4) : RunsE b t n d (f188_l9 g (k + 1)) rOne (q :: l) (q :: l) [] 0 :=
  re_id (fun B hB => by
    simp only [f188_l9]
    rw [hB, if_neg h]
    rfl)
theorem rule_of_any {b : Nat → Nat} {t n d s F k : Nat} {g : ZI → Option (Int32 × ZI)} {q : Int32 × Nat} {l l' : List (Int32 × Nat)} {c : List Nat} (hq : q.1 ≠ 5) (h : RunsE b t n d (f189_anyOf F) (f189_l9 g (k + 1)) l (q :: l') c s) : RunsE b t n d (f188_aRule (F + 1)) (f188_l9 (f189_anyOf F) zfu) l (q :: l') c s :=
  re_eq (re_as (re_seq h (and_stop hq)) (List.append_nil _) (Nat.add_zero _)) (fun B B1 e => by
    rw [fe188]
    unfold f188_aRule_b
    rw [e]
    unfold rOne
    simp only [Option.bind_some]
    rw [if_neg (by decide)])
theorem rule_run {b : Nat → Nat} {t n : Nat} (hb : tapB b t) (h0 : 0 < n) (hn : n ≤ 10) : ∀ f (y : Int32 × Nat), y.2 + f = 3 →
    (∀ d F q l, d + f ≤ 5 → 3 * f + 4 ≤ F → RunsE b t n d (f190_oneOf F) rOne (brTk n f y (q :: l)) (q :: l) (rCd n f y) (rSz f y)) ∧
    (∀ d F q l, d + f ≤ 6 → 3 * f + 2 ≤ F → nK y ≤ 2 → ∃ c, c ≤ f ∧ RunsE b t n d (f189_anyOf F) (f189_l9 (f190_oneOf (F - 1)) (zfu - c)) (rTk n f y (q :: l)) (q :: l) (rCd n f y) (rSz f y)) ∧
    (∀ d F q l, d + f ≤ 6 → 3 * f + 3 ≤ F → q.1 ≠ 5 → ∃ c, c ≤ f ∧ RunsE b t n d (f188_aRule F) (f188_l9 (f189_anyOf (F - 1)) (zfu - c)) (rTk n f y (q :: l)) (q :: l) (rCd n f y) (rSz f y)) := by
  have hzf := zfu_eq
  intro f
  induction f with
  | zero =>
    intro y hy
    have hk : nK y < 2 := (nK_lt y).2 (by omega)
    have hleaf : ∀ d F q l, RunsE b t n d (f190_oneOf (F + 1)) rOne (rTk n 0 y (q :: l)) (q :: l) (rCd n 0 y) (rSz 0 y) := fun d F q l => by
      obtain ⟨e1, e2, e3⟩ := leaf_tk (n := n) hk 0 (q :: l)
      rw [e1, e2, e3, fe190]
      refine one_leaf hb hn (fun hm => (nO_lt h0 y).1 ?_) (fun hm => ?_) rfl
      · have := of_decide_eq_false hm; omega
      · have := of_decide_eq_true hm
        have := (nO_lt h0 y).2 (by omega)
        omega
    have hany : ∀ d F q l, 2 ≤ F → RunsE b t n d (f189_anyOf F) (f189_l9 (f190_oneOf (F - 1)) zfu) (rTk n 0 y (q :: l)) (q :: l) (rCd n 0 y) (rSz 0 y) := fun d F q l hF => by
      obtain ⟨F, rfl⟩ : ∃ k, F = k + 2 := ⟨F - 2, by omega⟩
      exact any_of_one (F := F + 1) (hleaf d F q l)
    refine ⟨fun d F q l h1 h2 => ?_, fun d F q l h1 h2 h3 => ⟨0, Nat.le_refl _, hany d F q l (by omega)⟩, fun d F q l h1 h2 h3 => ⟨0, Nat.le_refl _, ?_⟩⟩
    · obtain ⟨F, rfl⟩ : ∃ k, F = k + 1 := ⟨F - 1, by omega⟩
      unfold brTk
      rw [if_neg (by omega)]
      exact hleaf d F q l
    · obtain ⟨F, rfl⟩ : ∃ k, F = k + 1 := ⟨F - 1, by omega⟩
      obtain ⟨k, hk⟩ : ∃ k, zfu = k + 1 := ⟨zfu - 1, by omega⟩
      have := hany d F q l (by omega)
      rw [hk] at this
      exact rule_of_any h3 this
  | succ f ih =>
    intro y hy
    obtain ⟨a1, a2, a3⟩ := ih (nL y) (by show y.2 + 1 + f = 3; omega)
    obtain ⟨b1, b2, b3⟩ := ih (nR y) (by show y.2 + 1 + f = 3; omega)
    have hk4 := (nK_lt y).1
    have hleaf : nK y < 2 → ∀ d F q l, RunsE b t n d (f190_oneOf (F + 1)) rOne (rTk n (f + 1) y (q :: l)) (q :: l) (rCd n (f + 1) y) (rSz (f + 1) y) := fun hk d F q l => by
      obtain ⟨e1, e2, e3⟩ := leaf_tk (n := n) hk (f + 1) (q :: l)
      rw [e1, e2, e3, fe190]
      refine one_leaf hb hn (fun hm => (nO_lt h0 y).1 ?_) (fun hm => ?_) rfl
      · have := of_decide_eq_false hm; omega
      · have := of_decide_eq_true hm
        have := (nO_lt h0 y).2 (by omega)
        omega
    have hP1 : ∀ d F q l, d + (f + 1) ≤ 6 → 3 * (f + 1) + 2 ≤ F → nK y ≤ 2 → ∃ c, c ≤ f + 1 ∧ RunsE b t n d (f189_anyOf F) (f189_l9 (f190_oneOf (F - 1)) (zfu - c)) (rTk n (f + 1) y (q :: l)) (q :: l) (rCd n (f + 1) y) (rSz (f + 1) y) := by
      intro d F q l h1 h2 h3
      obtain ⟨F, rfl⟩ : ∃ k, F = k + 2 := ⟨F - 2, by omega⟩
      by_cases hk : nK y = 2
      · obtain ⟨e1, e2, e3⟩ := tk_two (n := n) (f := f) (r := q :: l) hk
        obtain ⟨z, m, hzm⟩ := brTk_ne n f (nR y) q l
        have hR : RunsE b t n d (f190_oneOf (F + 1)) rOne (z :: m) (q :: l) (rCd n f (nR y)) (rSz f (nR y)) := by
          rw [← hzm]; exact b1 d (F + 1) q l (by omega) (by omega)
        by_cases h3' : nK (nL y) = 3
        · refine ⟨1, by omega, ?_⟩
          rw [e1, e2, e3, if_pos h3', hzm]
          have hA := any_of_one (F := F + 1) (a1 d (F + 1) (5, 0) (z :: m) (by omega) (by omega))
          obtain ⟨k, hk⟩ : ∃ k, zfu = k + 1 := ⟨zfu - 1, by omega⟩
          rw [show zfu - 1 = k by omega]
          rw [hk] at hA
          exact re_seq hA (and_step hb hR)
        · have hkl := (nK_lt (nL y)).1
          obtain ⟨c, hc, hA⟩ := a2 d (F + 2) (5, 0) (z :: m) (by omega) (by omega) (by omega)
          refine ⟨c + 1, by omega, ?_⟩
          rw [e1, e2, e3, if_neg h3', hzm]
          obtain ⟨k, hk⟩ : ∃ k, zfu - c = k + 1 := ⟨zfu - c - 1, by omega⟩
          rw [show zfu - (c + 1) = k by omega]
          rw [hk] at hA
          exact re_seq hA (and_step hb hR)
      · exact ⟨0, Nat.zero_le _, any_of_one (F := F + 1) (hleaf (by omega) d F q l)⟩
    have hP2 : ∀ d F q l, d + (f + 1) ≤ 6 → 3 * (f + 1) + 3 ≤ F → q.1 ≠ 5 → ∃ c, c ≤ f + 1 ∧ RunsE b t n d (f188_aRule F) (f188_l9 (f189_anyOf (F - 1)) (zfu - c)) (rTk n (f + 1) y (q :: l)) (q :: l) (rCd n (f + 1) y) (rSz (f + 1) y) := by
      intro d F q l h1 h2 h3
      obtain ⟨F, rfl⟩ : ∃ k, F = k + 2 := ⟨F - 2, by omega⟩
      by_cases hk : nK y = 3
      · obtain ⟨e1, e2, e3⟩ := tk_three (n := n) (f := f) (r := q :: l) hk
        obtain ⟨z, m, hzm⟩ := brTk_ne n f (nR y) q l
        have hR : RunsE b t n d (f189_anyOf (F + 1)) rOne (z :: m) (q :: l) (rCd n f (nR y)) (rSz f (nR y)) := by
          rw [← hzm]
          obtain ⟨k, hk⟩ : ∃ k, zfu = k + 1 := ⟨zfu - 1, by omega⟩
          have := any_of_one (F := F) (b1 d F q l (by omega) (by omega))
          rw [hk] at this
          exact re_as (re_seq this (and_stop h3)) (List.append_nil _) (Nat.add_zero _)
        obtain ⟨c, hc, hA⟩ := a3 d (F + 2) (4, 0) (z :: m) (by omega) (by omega) (by decide)
        refine ⟨c + 1, by omega, ?_⟩
        rw [e1, e2, e3, hzm]
        obtain ⟨k, hk⟩ : ∃ k, zfu - c = k + 1 := ⟨zfu - c - 1, by omega⟩
        rw [show zfu - (c + 1) = k by omega]
        rw [hk] at hA
        exact re_seq hA (or_step hb hR)
      · obtain ⟨c, hc, hA⟩ := hP1 d (F + 1) q l h1 (by omega) (by omega)
        obtain ⟨k, hk⟩ : ∃ k, zfu - c = k + 1 := ⟨zfu - c - 1, by omega⟩
        rw [hk] at hA
        exact ⟨0, Nat.zero_le _, rule_of_any h3 hA⟩
    refine ⟨fun d F q l h1 h2 => ?_, hP1, hP2⟩
    obtain ⟨F, rfl⟩ : ∃ k, F = k + 1 := ⟨F - 1, by omega⟩
    unfold brTk
    by_cases hk : 1 < nK y
    · rw [if_pos hk, fe190]
      obtain ⟨z, m, hzm⟩ := rTk_ne n (f + 1) y (141, 0) (q :: l)
      obtain ⟨c, hc, hA⟩ := hP2 (d + 1) F (141, 0) (q :: l) (by omega) (by omega) (by decide)
      rw [hzm] at hA ⊢
      obtain ⟨k, hk⟩ : ∃ k, zfu - c = k + 1 := ⟨zfu - c - 1, by omega⟩
      rw [hk] at hA
      exact one_par hb (by omega) (re_as (re_seq hA (or_stop (by decide))) (List.append_nil _) (Nat.add_zero _))
    · rw [if_neg hk]
      exact hleaf (by omega) d F q l
