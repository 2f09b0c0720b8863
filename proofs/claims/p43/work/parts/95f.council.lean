-- ===== a council's rule as drawn, and how it is read forward =====
def bw (x : Int32) (m : Nat) : Nat := zi (x &&& 1048575) % m
def nV (y : Int32 × Nat) : Int32 := y.1 * (znn y.2 + 3) + 227 * znn y.2
def nK (y : Int32 × Nat) : Nat := if 2 < y.2 then bw (zshr (nV y) 4) 2 else bw (zshr (nV y) 4) 4
def nO (n : Nat) (y : Int32 × Nat) : Nat := if nK y = 0 then bw (nV y) n else 1 + bw (zshr (nV y) 2) (min 10 (n + 1))
def nL (y : Int32 × Nat) : Int32 × Nat := (zshr (nV y) 1, y.2 + 1)
def nR (y : Int32 × Nat) : Int32 × Nat := (zshr (nV y) 3, y.2 + 1)
theorem nK_lt (y : Int32 × Nat) : nK y < 4 ∧ (2 < y.2 → nK y < 2) := by
  unfold nK bw
  constructor
  · split
    · exact Nat.lt_of_lt_of_le (Nat.mod_lt _ (by decide)) (by decide)
    · exact Nat.mod_lt _ (by decide)
  · intro h
    rw [if_pos h]
    exact Nat.mod_lt _ (by decide)
theorem nO_lt {n : Nat} (hn : 0 < n) (y : Int32 × Nat) : (nK y = 0 → nO n y < n) ∧ (nK y ≠ 0 → 1 ≤ nO n y ∧ nO n y ≤ min 10 (n + 1)) := by
  unfold nO bw
  constructor
  · intro h
    rw [if_pos h]
    exact Nat.mod_lt _ hn
  · intro h
    rw [if_neg h]
    have := Nat.mod_lt (zi (zshr (nV y) 2 &&& 1048575)) (show 0 < min 10 (n + 1) by omega)
    omega
/-- the tokens of a rule, before those that follow -/
def rTk (n : Nat) : Nat → Int32 × Nat → List (Int32 × Nat) → List (Int32 × Nat)
  | 0, y, r => if nK y = 0 then (2, nO n y) :: r else (14, 0) :: (2, nO n y) :: r
  | f + 1, y, r => if nK y = 0 then (2, nO n y) :: r else if nK y = 1 then (14, 0) :: (2, nO n y) :: r else if nK y = 2 then (if nK (nL y) = 3 then (140, 0) :: rTk n f (nL y) ((141, 0) :: (5, 0) :: (if 1 < nK (nR y) then (140, 0) :: rTk n f (nR y) ((141, 0) :: r) else rTk n f (nR y) r)) else rTk n f (nL y) ((5, 0) :: (if 1 < nK (nR y) then (140, 0) :: rTk n f (nR y) ((141, 0) :: r) else rTk n f (nR y) r))) else rTk n f (nL y) ((4, 0) :: (if 1 < nK (nR y) then (140, 0) :: rTk n f (nR y) ((141, 0) :: r) else rTk n f (nR y) r))
def rCd (n : Nat) : Nat → Int32 × Nat → List Nat
  | 0, y => if nK y = 0 then [nO n y] else [20 + nO n y]
  | f + 1, y => if nK y = 0 then [nO n y] else if nK y = 1 then [20 + nO n y] else rCd n f (nL y) ++ (rCd n f (nR y) ++ [if nK y = 2 then 40 else 41])
def rSz : Nat → Int32 × Nat → Nat
  | 0, _ => 1
  | f + 1, y => if nK y < 2 then 1 else rSz f (nL y) + rSz f (nR y)
theorem rTk_ne (n : Nat) : ∀ f y q l, ∃ z m, rTk n f y (q :: l) = z :: m
  | 0, y, q, l => by
    unfold rTk
    split
    · exact ⟨_, _, rfl⟩
    · exact ⟨_, _, rfl⟩
  | f + 1, y, q, l => by
    unfold rTk
    split
    · exact ⟨_, _, rfl⟩
    · split
      · exact ⟨_, _, rfl⟩
      · split
        · split
          · exact ⟨_, _, rfl⟩
          · exact rTk_ne n f _ _ _
        · exact rTk_ne n f _ _ _
theorem rCd_len (n : Nat) : ∀ f y, (rCd n f y).length < 2 ^ (f + 1)
  | 0, y => by
    unfold rCd
    split <;> (simp only [List.length_cons, List.length_nil]; omega)
  | f + 1, y => by
    have h1 := rCd_len n f (nL y)
    have h2 := rCd_len n f (nR y)
    have h3 : 2 ^ (f + 1 + 1) = 2 * 2 ^ (f + 1) := by rw [Nat.pow_succ]; omega
    have h4 : 2 ≤ 2 ^ (f + 1) := by rw [Nat.pow_succ]; have := Nat.two_pow_pos f; omega
    unfold rCd
    split
    · simp only [List.length_cons, List.length_nil]; omega
    · split
      · simp only [List.length_cons, List.length_nil]; omega
      · simp only [List.length_append, List.length_cons, List.length_nil]; omega
theorem rSz_le : ∀ f y, rSz f y ≤ 2 ^ f ∧ 1 ≤ rSz f y
  | 0, y => ⟨Nat.le_refl _, Nat.le_refl _⟩
  | f + 1, y => by
    have h1 := rSz_le f (nL y)
    have h2 := rSz_le f (nR y)
    have h3 : 2 ^ (f + 1) = 2 * 2 ^ f := by rw [Nat.pow_succ]; omega
    unfold rSz
    split <;> omega
def stC (n r d : Nat) (cs : List Nat) (B : ZI) : Prop := B 149 48 = znn n ∧ B 148 17 = znn r ∧ B 148 18 = znn cs.length ∧ B 148 27 = znn d ∧ cs.length ≤ 60 ∧ ∀ i, i < cs.length → B 157 i = znn (cs.getD i 0)
def kpC (B B' : ZI) : Prop := (∀ o, o ≠ 148 → o ≠ 157 → B' o = B o) ∧ ∀ j, j ≠ 17 → j ≠ 18 → j ≠ 20 → j ≠ 21 → j ≠ 22 → j ≠ 23 → j ≠ 27 → j ≠ 29 → B' 148 j = B 148 j
theorem kpC_refl (B : ZI) : kpC B B := ⟨fun _ _ _ => rfl, fun _ _ _ _ _ _ _ _ _ => rfl⟩
theorem kpC_trans {A B C : ZI} (h1 : kpC A B) (h2 : kpC B C) : kpC A C := ⟨fun o a b => (h2.1 o a b).trans (h1.1 o a b), fun j a b c d e f g h => (h2.2 j a b c d e f g h).trans (h1.2 j a b c d e f g h)⟩
/-- F reads the tokens up to those that are left, lays the steps, and goes on as G -/
def RunsE (b : Nat → Nat) (t n d : Nat) (F G : ZI → Option (Int32 × ZI)) (l l' : List (Int32 × Nat)) (c : List Nat) (s : Nat) : Prop := ∀ B cs r, pT 3 b t B l → stC n r d cs B → cs.length + c.length ≤ 60 → r + s ≤ 60 → ∃ B', F B = G B' ∧ pT 3 b t B' l' ∧ stC n (r + s) d (cs ++ c) B' ∧ kpC B B'
def rOne (B : ZI) : Option (Int32 × ZI) := some (1, B)
theorem re_seq {b : Nat → Nat} {t n d : Nat} {F G H : ZI → Option (Int32 × ZI)} {l l1 l2 : List (Int32 × Nat)} {c1 c2 : List Nat} {s1 s2 : Nat} (h1 : RunsE b t n d F G l l1 c1 s1) (h2 : RunsE b t n d G H l1 l2 c2 s2) : RunsE b t n d F H l l2 (c1 ++ c2) (s1 + s2) := by
  intro B cs r hP hS hl hr
  simp only [List.length_append] at hl
  obtain ⟨B1, e1, e2, e3, e4⟩ := h1 B cs r hP hS (by omega) (by omega)
  obtain ⟨B2, g1, g2, g3, g4⟩ := h2 B1 (cs ++ c1) (r + s1) e2 e3 (by simp; omega) (by omega)
  exact ⟨B2, e1.trans g1, g2, by rw [← List.append_assoc, ← Nat.add_assoc]; exact g3, kpC_trans e4 g4⟩
theorem re_eq {b : Nat → Nat} {t n d : Nat} {F F' G G' : ZI → Option (Int32 × ZI)} {l l1 : List (Int32 × Nat)} {c1 : List Nat} {s1 : Nat} (h1 : RunsE b t n d F G l l1 c1 s1) (h2 : ∀ B B1, F B = G B1 → F' B = G' B1) : RunsE b t n d F' G' l l1 c1 s1 := by
  intro B cs r hP hS hl hr
  obtain ⟨B1, e1, e2⟩ := h1 B cs r hP hS hl hr
  exact ⟨B1, h2 B B1 e1, e2⟩
theorem re_next {b : Nat → Nat} {t n d : Nat} {F G : ZI → Option (Int32 × ZI)} {q y : Int32 × Nat} {l : List (Int32 × Nat)} (hb : tapB b t) (h : ∀ B B1, B 148 21 = q.1 → f157_next0 B = some B1 → F B = G B1) : RunsE b t n d F G (q :: y :: l) (y :: l) [] 0 := by
  intro B cs r hP hS _ _
  obtain ⟨B1, e1, e2, e3, e4⟩ := ps_next hb (by decide) hP
  obtain ⟨s1, s2, s3, s4, s5, s6⟩ := hS
  refine ⟨B1, h B B1 hP.2.2.1 e1, e2, ?_, ⟨fun o q1 _ => e3 o q1, fun j _ _ q3 q4 q5 q6 _ _ => e4 j q3 q4 q5 q6⟩⟩
  rw [List.append_nil]
  exact ⟨by rw [e3 149 (by decide)]; exact s1, by rw [e4 17 (by decide) (by decide) (by decide) (by decide)]; exact s2, by rw [e4 18 (by decide) (by decide) (by decide) (by decide)]; exact s3, by rw [e4 27 (by decide) (by decide) (by decide) (by decide)]; exact s4, s5, fun i hi => by rw [e3 157 (by decide)]; exact s6 i hi⟩
theorem re_id {b : Nat → Nat} {t n d : Nat} {F G : ZI → Option (Int32 × ZI)} {q : Int32 × Nat} {l : List (Int32 × Nat)} (h : ∀ B, B 148 21 = q.1 → F B = G B) : RunsE b t n d F G (q :: l) (q :: l) [] 0 := by
  intro B cs r hP hS _ _
  refine ⟨B, h B hP.2.2.1, hP, ?_, kpC_refl B⟩
  rw [List.append_nil]
  exact hS
/-- a step is laid -/
theorem rules_r {b : Nat → Nat} {t n d r v : Nat} {B : ZI} {l : List (Int32 × Nat)} {cs : List Nat} (hP : pT 3 b t B l) (hS : stC n r d cs B) (hl : cs.length < 60) : ∃ B', f191_rules (znn v) B = some B' ∧ pT 3 b t B' l ∧ stC n r d (cs ++ [v]) B' ∧ kpC B B' := by
  obtain ⟨s1, s2, s3, s4, s5, s6⟩ := hS
  refine ⟨zs (zs B 157 cs.length (znn v)) 148 18 (znn (cs.length + 1)), ?_, pT_of hP (by rw [zs_df (by decide), zs_df (by decide)]) (fun j hj => by rw [zs_sm, if_neg (by omega), zs_df (by decide)]), ⟨?_, ?_, ?_, ?_, by simp; omega, fun i hi => ?_⟩, ⟨fun o q1 q2 => by rw [zs_df q1, zs_df q2], fun j _ q2 _ _ _ _ _ _ => by rw [zs_sm, if_neg q2, zs_df (by decide)]⟩⟩
  · unfold f191_rules
    rw [s3, if_pos ((zn_zin (by omega)).mpr (by omega)), zn_zi (by omega)]
    simp only [zlet]
    rw [zs_df (show (148 : Nat) ≠ 157 by decide), s3, zadd1]
  · rw [zs_df (by decide), zs_df (by decide)]; exact s1
  · rw [zs_sm, if_neg (by decide), zs_df (by decide)]; exact s2
  · rw [zs_sm, if_pos rfl]; simp
  · rw [zs_sm, if_neg (by decide), zs_df (by decide)]; exact s4
  · rw [zs_df (by decide), zs_sm]
    simp only [List.length_append, List.length_cons, List.length_nil] at hi
    by_cases hic : i < cs.length
    · rw [if_neg (by omega), List.getD_eq_getElem?_getD, List.getElem?_append_left hic, ← List.getD_eq_getElem?_getD]
      exact s6 i hic
    · have hi2 : i = cs.length := by omega
      subst hi2
      rw [if_pos rfl, List.getD_eq_getElem?_getD, List.getElem?_append_right (Nat.le_refl _), Nat.sub_self]
      rfl
theorem re_lay {b : Nat → Nat} {t n d v : Nat} {F G : ZI → Option (Int32 × ZI)} {l : List (Int32 × Nat)} (h : ∀ B B1, f191_rules (znn v) B = some B1 → F B = G B1) : RunsE b t n d F G l l [v] 0 := by
  intro B cs r hP hS hl _
  simp only [List.length_cons, List.length_nil] at hl
  obtain ⟨B1, e1, e2, e3, e4⟩ := rules_r (v := v) hP hS (by omega)
  exact ⟨B1, h B B1 e1, e2, e3, e4⟩
/-- a person or a count -/
theorem one_leaf {b : Nat → Nat} {t n d v : Nat} {m : Bool} {g : ZI → Option (Int32 × ZI)} {y : Int32 × Nat} {l lq : List (Int32 × Nat)} (hb : tapB b t) (hn : n ≤ 10) (hv : m = false → v < n) (hv2 : m = true → 1 ≤ v ∧ v ≤ 10) (hlq : lq = if m = true then (14, 0) :: (2, v) :: y :: l else (2, v) :: y :: l) : RunsE b t n d (f190_oneOf_b g) rOne lq (y :: l) [if m = true then 20 + v else v] 1 := by
  intro B cs r hP hS hl hr
  have hrest : ∀ (B3 : ZI) (lo hi add : Nat) (lo' hi' add' : Int32), lo' = znn lo → hi' = znn hi → add' = znn add → pT 3 b t B3 ((2, v) :: y :: l) → stC n r d cs B3 → lo ≤ v → v ≤ hi → hi ≤ 10 → (if m = true then 20 + v else v) = add + v → ∃ B', ((f182_number lo' hi' B3).bind fun x => if x.1 = 0 then some ((0 : Int32), x.2) else (f191_rules (add' + (x.2 148 29)) x.2).bind fun M9 => some ((1 : Int32), zs M9 148 17 ((M9 148 17) + (1 : Int32)))) = some (1, B') ∧ pT 3 b t B' (y :: l) ∧ stC n (r + 1) d (cs ++ [if m = true then 20 + v else v]) B' ∧ kpC B3 B' := by
    intro B3 lo hi add lo' hi' add' el eh ea hP3 hS3 h1 h2 h3 h4
    subst el eh ea
    obtain ⟨B4, e1, e2, e3, e4, e5⟩ := num_r hb (by decide) hP3 h1 h2 (by omega)
    obtain ⟨s1, s2, s3, s4, s5, s6⟩ := hS3
    have hS4 : stC n r d cs B4 := ⟨by rw [e4 149 (by decide)]; exact s1, by rw [e5 17 (by decide) (by decide) (by decide) (by decide) (by decide)]; exact s2, by rw [e5 18 (by decide) (by decide) (by decide) (by decide) (by decide)]; exact s3, by rw [e5 27 (by decide) (by decide) (by decide) (by decide) (by decide)]; exact s4, s5, fun i hi => by rw [e4 157 (by decide)]; exact s6 i hi⟩
    simp only [List.length_cons, List.length_nil] at hl
    obtain ⟨B5, g1, g2, g3, g4⟩ := rules_r (v := add + v) e2 hS4 (by omega)
    obtain ⟨u1, u2, u3, u4, u5, u6⟩ := g3
    refine ⟨zs B5 148 17 (znn (r + 1)), ?_, pT_of g2 (zs_df (by decide)) (fun j hj => by rw [zs_sm, if_neg (by omega)]), ?_, ?_⟩
    · rw [e1]
      simp only [Option.bind_some]
      rw [if_neg (by decide), e3, zn_add, g1]
      simp only [Option.bind_some]
      rw [u2, zadd1]
    · rw [h4]
      exact ⟨by rw [zs_df (by decide)]; exact u1, by rw [zs_sm, if_pos rfl], by rw [zs_sm, if_neg (by decide)]; exact u3, by rw [zs_sm, if_neg (by decide)]; exact u4, u5, fun i hi => by rw [zs_df (by decide)]; exact u6 i hi⟩
    · exact ⟨fun o q1 q2 => by rw [zs_df q1, g4.1 o q1 q2, e4 o q1], fun j q1 q2 q3 q4 q5 q6 q7 q8 => by rw [zs_sm, if_neg q1, g4.2 j q1 q2 q3 q4 q5 q6 q7 q8, e5 j q3 q4 q5 q6 q8]⟩
  have hm1 : znn n - 1 = znn (n - 1) ∨ n = 0 := by
    by_cases h0 : n = 0
    · exact Or.inr h0
    · left; rw [zl1, zn_sub (by omega)]
  cases m with
  | false =>
    simp only [Bool.false_eq_true, if_false] at hlq hrest ⊢
    have hvn := hv rfl
    subst hlq
    obtain ⟨B', k1, k2, k3, k4⟩ := hrest B 0 (n - 1) 0 0 (znn (n - 1)) 0 rfl rfl rfl hP hS (Nat.zero_le _) (by omega) (by omega) (by omega)
    refine ⟨B', ?_, k2, k3, k4⟩
    have hm : znn n - 1 = znn (n - 1) := hm1.resolve_right (by omega)
    unfold f190_oneOf_b
    rw [show B 148 21 = 2 from hP.2.2.1, if_neg (by decide), if_neg (by decide)]
    rw [Option.bind_some, if_pos (show (0 : Int32) = 0 from rfl), Option.bind_some, if_pos (show (0 : Int32) = 0 from rfl), Option.bind_some, if_pos (show (0 : Int32) = 0 from rfl), Option.bind_some, hS.1, hm]
    unfold rOne
    rw [← k1]
    rfl
  | true =>
    simp only [if_true] at hlq hrest ⊢
    obtain ⟨hv1, hv10⟩ := hv2 rfl
    subst hlq
    obtain ⟨B1, hnx, n2, e3, e4⟩ := ps_next hb (by decide) hP
    obtain ⟨s1, s2, s3, s4, s5, s6⟩ := hS
    have n3 : stC n r d cs B1 := ⟨by rw [e3 149 (by decide)]; exact s1, by rw [e4 17 (by decide) (by decide) (by decide) (by decide)]; exact s2, by rw [e4 18 (by decide) (by decide) (by decide) (by decide)]; exact s3, by rw [e4 27 (by decide) (by decide) (by decide) (by decide)]; exact s4, s5, fun i hi => by rw [e3 157 (by decide)]; exact s6 i hi⟩
    have n4 : kpC B B1 := ⟨fun o q1 _ => e3 o q1, fun j _ _ q3 q4 q5 q6 _ _ => e4 j q3 q4 q5 q6⟩
    obtain ⟨B', k1, k2, k3, k4⟩ := hrest B1 1 10 20 1 10 20 rfl rfl rfl n2 n3 hv1 hv10 (by omega) rfl
    refine ⟨B', ?_, k2, k3, kpC_trans n4 k4⟩
    unfold f190_oneOf_b
    rw [show B 148 21 = 14 from hP.2.2.1, if_neg (by decide), if_pos rfl]
    simp only [Option.bind_some]
    rw [if_neg (by decide), hnx]
    simp only [Option.bind_some]
    rw [if_neg (by decide)]
    simp only [Option.bind_some]
    unfold rOne
    rw [← k1]
    rfl
theorem one_par {b : Nat → Nat} {t n d s v0 v1 : Nat} {g : ZI → Option (Int32 × ZI)} {y z : Int32 × Nat} {l l2 : List (Int32 × Nat)} {c : List Nat} (hb : tapB b t) (hd : d < 8) (h : RunsE b t n (d + 1) g rOne (y :: l) ((141, v1) :: z :: l2) c s) : RunsE b t n d (f190_oneOf_b g) rOne ((140, v0) :: y :: l) (z :: l2) c s := by
  intro B cs r hP hS hl hr
  have hS0 := hS
  obtain ⟨s1, s2, s3, s4, s5, s6⟩ := hS
  have hP1 : pT 3 b t (zs B 148 27 (znn (d + 1))) ((140, v0) :: y :: l) := pT_of hP (zs_df (by decide)) (fun j hj => by rw [zs_sm, if_neg (by omega)])
  obtain ⟨B1, e1, e2, e3, e4⟩ := ps_next hb (by decide) hP1
  have hS1 : stC n r (d + 1) cs B1 := ⟨by rw [e3 149 (by decide), zs_df (by decide)]; exact s1, by rw [e4 17 (by decide) (by decide) (by decide) (by decide), zs_sm, if_neg (by decide)]; exact s2, by rw [e4 18 (by decide) (by decide) (by decide) (by decide), zs_sm, if_neg (by decide)]; exact s3, by rw [e4 27 (by decide) (by decide) (by decide) (by decide), zs_sm, if_pos rfl], s5, fun i hi => by rw [e3 157 (by decide), zs_df (by decide)]; exact s6 i hi⟩
  obtain ⟨B2, g1, g2, g3, g4⟩ := h B1 cs r e2 hS1 hl hr
  obtain ⟨B3, m1, m2, m3, m4⟩ := ps_next hb (by decide) g2
  obtain ⟨u1, u2, u3, u4, u5, u6⟩ := g3
  have h27 : B3 148 27 - 1 = znn d := by rw [m4 27 (by decide) (by decide) (by decide) (by decide), u4, zl1, zn_sub (by omega)]; rfl
  refine ⟨zs B3 148 27 (znn d), ?_, pT_of m2 (zs_df (by decide)) (fun j hj => by rw [zs_sm, if_neg (by omega)]), ⟨by rw [zs_df (by decide), m3 149 (by decide)]; exact u1, by rw [zs_sm, if_neg (by decide), m4 17 (by decide) (by decide) (by decide) (by decide)]; exact u2, by rw [zs_sm, if_neg (by decide), m4 18 (by decide) (by decide) (by decide) (by decide)]; exact u3, by rw [zs_sm, if_pos rfl], u5, fun i hi => by rw [zs_df (by decide), m3 157 (by decide)]; exact u6 i hi⟩, ⟨fun o q1 q2 => by rw [zs_df q1, m3 o q1, g4.1 o q1 q2, e3 o q1, zs_df q1], fun j q1 q2 q3 q4 q5 q6 q7 q8 => by rw [zs_sm, if_neg q7, m4 j q3 q4 q5 q6, g4.2 j q1 q2 q3 q4 q5 q6 q7 q8, e4 j q3 q4 q5 q6, zs_sm, if_neg q7]⟩⟩
  unfold f190_oneOf_b
  rw [show B 148 21 = 140 from hP.2.2.1, if_pos rfl, s4, if_neg (show ¬ znn d = 8 by rw [zl8, zn_eq (by omega) (by decide)]; omega)]
  simp only [zlet]
  rw [zadd1, e1]
  simp only [Option.bind_some]
  rw [g1]
  unfold rOne
  simp only [Option.bind_some]
  rw [if_neg (by decide)]
  unfold f179_need
  rw [if_pos (show B2 148 21 = 141 from g2.2.2.1), m1]
  simp only [Option.bind_some]
  rw [if_neg (by decide), h27]
