-- ===== text of THE COUNCIL: both drafts =====
theorem cRun_add {S : Nat} {w : Nat → Int32} : ∀ k1 k2 i st, cRun S w (k1 + k2) i st = (cRun S w k1 i st).bind (cRun S w k2 (i + k1))
  | 0, k2, i, st => by rw [Nat.zero_add]; rfl
  | k1 + 1, k2, i, st => by
    rw [show k1 + 1 + k2 = (k1 + k2) + 1 by omega, cRun, cRun]
    cases cStep S (w (162 + i)) st with
    | none => rfl
    | some s => rw [Option.bind_some, Option.bind_some, cRun_add k1 k2 (i + 1) s, show i + 1 + k1 = i + (k1 + 1) by omega]
theorem cRun_cong {S : Nat} {w w' : Nat → Int32} (k : Nat) : ∀ i st, (∀ j, i ≤ j → j < i + k → w (162 + j) = w' (162 + j)) → cRun S w k i st = cRun S w' k i st := by
  induction k with
  | zero => intro i st h; rfl
  | succ k ih =>
    intro i st h
    have h12 := h i (Nat.le_refl _) (Nat.lt_add_of_pos_right (Nat.succ_pos k))
    have hr : ∀ s, cRun S w k (i + 1) s = cRun S w' k (i + 1) s := fun s => ih (i + 1) s (fun j j1 j2 => h j (Nat.le_of_succ_le j1) (by rw [show i + (k + 1) = i + 1 + k by omega]; exact j2))
    unfold cRun
    rw [h12]
    congr 1
    funext s
    exact hr s
def dftC (B : ZI) : Nat → Int32 := fun i => B 157 (i - 162)
theorem dftC_0 (B : ZI) (j : Nat) : dftC B (162 + j) = B 157 j := by
  unfold dftC
  rw [show 162 + j - 162 = j by omega]
def pushC (B : ZI) (c c' h : Nat) : Prop := c ≤ c' ∧ ∀ S st, S < 1024 → st.length + h ≤ 64 → ∃ x, bitV x ∧ cRun S (dftC B) (c' - c) c st = some (x :: st)
theorem pushC_keep {B B' : ZI} {c c' h : Nat} (hp : pushC B c c' h) (g : ∀ j, j < c' → B' 157 j = B 157 j) : pushC B' c c' h := by
  obtain ⟨h1, h2⟩ := hp
  refine ⟨h1, fun S st hS hl => ?_⟩
  obtain ⟨x, hx, e⟩ := h2 S st hS hl
  refine ⟨x, hx, ?_⟩
  rw [← e]
  exact cRun_cong _ _ _ (fun j j1 j2 => by rw [dftC_0, dftC_0]; exact g _ (by omega))
theorem pushC_mono {B : ZI} {c c' h h' : Nat} (hp : pushC B c c' h) (g : h ≤ h') : pushC B c c' h' := ⟨hp.1, fun S st hS hl => hp.2 S st hS (by omega)⟩
theorem pushC_lt {B : ZI} {c c' h : Nat} (hp : pushC B c c' h) (hh : h ≤ 64) : c < c' := by
  obtain ⟨h1, h2⟩ := hp
  obtain ⟨x, -, e⟩ := h2 0 [] (by decide) (by simpa using hh)
  by_cases hc : c' = c
  · rw [hc, Nat.sub_self] at e
    exact absurd e (by simp [cRun])
  · omega
theorem pushC_part {B : ZI} {c : Nat} (h : (∃ j, j < 10 ∧ B 157 c = znn j) ∨ ∃ j, j < 11 ∧ B 157 c = znn (20 + j)) : pushC B c (c + 1) 1 := by
  refine ⟨by omega, fun S st hS hl => ?_⟩
  rw [show c + 1 - c = 0 + 1 by omega, cRun, dftC_0]
  unfold cStep
  rcases h with ⟨j, hj, h⟩ | ⟨j, hj, h⟩
  · rw [h, if_pos (show znn j < 40 by rw [zl40, zn_lt (by omega) (by decide)]; omega), if_pos (by omega), if_pos (show znn j < 20 by rw [zl20, zn_lt (by omega) (by decide)]; omega), zbit (by omega) (by omega)]
    refine ⟨_, ?_, rfl⟩
    split
    · exact Or.inr rfl
    · exact Or.inl rfl
  · rw [h, if_pos (show znn (20 + j) < 40 by rw [zl40, zn_lt (by omega) (by decide)]; omega), if_pos (by omega), if_neg (show ¬ znn (20 + j) < 20 by rw [zl20, zn_lt (by omega) (by decide)]; omega)]
    refine ⟨_, ?_, rfl⟩
    split
    · exact Or.inl rfl
    · exact Or.inr rfl
theorem pushC_two {B : ZI} {c c1 c2 h1 h2 h : Nat} (hp : pushC B c c1 h1) (hq : pushC B c1 c2 h2) (g1 : h1 ≤ h) (g2 : h2 + 1 ≤ h) (s : Int32) (hs : B 157 c2 = s) (hs1 : s = 40 ∨ s = 41) : pushC B c (c2 + 1) h := by
  obtain ⟨p1, p2⟩ := hp
  obtain ⟨q1, q2⟩ := hq
  refine ⟨by omega, fun S st hS hl => ?_⟩
  obtain ⟨x, hx, e1⟩ := p2 S st hS (by omega)
  obtain ⟨y, hy, e2⟩ := q2 S (x :: st) hS (by simp only [List.length_cons]; omega)
  have hz : bitV (if s = 40 then x &&& y else x ||| y) := by
    rcases hs1 with rfl | rfl <;> rcases hx with rfl | rfl <;> rcases hy with rfl | rfl <;> unfold bitV <;> decide
  refine ⟨_, hz, ?_⟩
  rw [show c2 + 1 - c = (c1 - c) + ((c2 - c1) + (0 + 1)) by omega, cRun_add, e1, Option.bind_some, show c + (c1 - c) = c1 by omega, cRun_add, e2, Option.bind_some, show c1 + (c2 - c1) = c2 by omega, cRun, dftC_0, hs]
  unfold cStep
  rw [if_neg (show ¬ s < 40 by rcases hs1 with rfl | rfl <;> decide)]
  rfl
/-- the rule laid so far, on both sides -/
def CC (A B : ZI) (c : Nat) : Prop := ∃ p, A 143 3 = znn c ∧ B 148 18 = znn c ∧ A 142 1 = znn p ∧ B 148 17 = znn p ∧ p ≤ c ∧ (c = 0 ↔ p = 0) ∧ ∀ j, j < c → ruleRel (A 144 j) (A 145 j) (B 157 j)
def ccell (j : Nat) : Bool := decide (j ∈ [17, 18, 20, 21, 22, 23, 29])
def keepC (A B A' B' : ZI) (c : Nat) : Prop := (∀ o, o ≠ 119 → o ≠ 142 → o ≠ 143 → o ≠ 144 → o ≠ 145 → A' o = A o) ∧ (∀ o, o ≠ 148 → o ≠ 157 → B' o = B o) ∧ (∀ j, ccell j = false → B' 148 j = B 148 j) ∧ ∀ j, j < c → B' 157 j = B 157 j
theorem keepC_refl (A B : ZI) (c : Nat) : keepC A B A B c := ⟨fun _ _ _ _ _ _ => rfl, fun _ _ _ => rfl, fun _ _ => rfl, fun _ _ => rfl⟩
theorem keepC_trans {A B A1 B1 A2 B2 : ZI} {c c1 : Nat} (h : keepC A B A1 B1 c) (g : keepC A1 B1 A2 B2 c1) (hc : c ≤ c1) : keepC A B A2 B2 c := ⟨fun o o1 o2 o3 o4 o5 => (g.1 o o1 o2 o3 o4 o5).trans (h.1 o o1 o2 o3 o4 o5), fun o o1 o2 => (g.2.1 o o1 o2).trans (h.2.1 o o1 o2), fun j hj => (g.2.2.1 j hj).trans (h.2.2.1 j hj), fun j hj => (g.2.2.2 j (by omega)).trans (h.2.2.2 j hj)⟩
theorem CC_of {A B A' B' : ZI} {c : Nat} (h : CC A B c) (g1 : ∀ o, 142 ≤ o → o ≤ 145 → A' o = A o) (g2 : B' 148 18 = B 148 18 ∧ B' 148 17 = B 148 17) (g3 : B' 157 = B 157) : CC A' B' c := by
  unfold CC
  rw [g1 142 (by decide) (by decide), g1 143 (by decide) (by decide), g1 144 (by decide) (by decide), g1 145 (by decide) (by decide), g2.1, g2.2, g3]
  exact h
theorem fwdC {b : Nat → Nat} {t n N m c : Nat} {A0 B0 A B : ZI} (hC : CX 3 b t n N A0 B0) (h : PS 3 b t N A0 B0 A B m) (hc : CC A B c) (hm : m < N) :
    ∃ A' B', f68_forward 119 A = some A' ∧ f157_next0 B = some B' ∧ PS 3 b t N A0 B0 A' B' (m + 1) ∧ CC A' B' c ∧ keepC A B A' B' c := by
  obtain ⟨A', B', e1, e2, e3, e4, e5, e6⟩ := fwd hC h hm
  refine ⟨A', B', e1, e2, e3, CC_of hc (fun o o1 o2 => e4 o (by omega)) ⟨e6 18 (by decide) (by decide) (by decide) (by decide), e6 17 (by decide) (by decide) (by decide) (by decide)⟩ (e5 157 (by decide)), ⟨fun o o1 _ _ _ _ => e4 o o1, fun o o1 _ => e5 o o1, fun j hj => ?_, fun j _ => by rw [e5 157 (by decide)]⟩⟩
  exact e6 j (by rintro rfl; exact absurd hj (by decide)) (by rintro rfl; exact absurd hj (by decide)) (by rintro rfl; exact absurd hj (by decide)) (by rintro rfl; exact absurd hj (by decide))
theorem add143 {A : ZI} {c : Nat} {op arg : Int32} (c1 : A 143 3 = znn c) (hc4 : c < 400) : f74_add 143 op arg A = some (zs (zs (zs A 144 c op) 145 c arg) 143 3 (znn (c + 1))) := by
  have hz : zin (znn c) 400 = true := (zn_zin (by omega)).mpr hc4
  have k1 : (zs A 144 c op) 143 3 = znn c := by rw [zs_df (by decide)]; exact c1
  have k2 : (zs (zs A 144 c op) 145 c arg) 143 3 = znn c := by rw [zs_df (by decide)]; exact k1
  unfold f74_add
  rw [c1, if_pos (show znn c < 400 by rw [zl400, zn_lt (by omega) (by decide)]; exact hc4), if_pos hz, zn_zi (by omega), show 143 + 1 = 144 from rfl, show 143 + 2 = 145 from rfl, zlet_e, k1, if_pos hz, zn_zi (by omega), zlet_e, k2, zadd1]
  rfl
theorem rules157 {B : ZI} {c : Nat} {s : Int32} (c2 : B 148 18 = znn c) (hc4 : c < 400) : f191_rules s B = some (zs (zs B 157 c s) 148 18 (znn (c + 1))) := by
  have k1 : (zs B 157 c s) 148 18 = znn c := by rw [zs_df (by decide)]; exact c2
  unfold f191_rules
  rw [c2, if_pos ((zn_zin (by omega)).mpr hc4), zn_zi (by omega), zlet_e, k1, zadd1]
  rfl
/-- both lay a step -/
theorem layC {b : Nat → Nat} {t N m c : Nat} {A0 B0 A B : ZI} {op arg s : Int32} (h : PS 3 b t N A0 B0 A B m) (hc : CC A B c) (hc4 : c < 400) (hc1 : 1 ≤ c) (hr : ruleRel op arg s) :
    ∃ A' B', f74_add 143 op arg A = some A' ∧ f191_rules s B = some B' ∧ PS 3 b t N A0 B0 A' B' m ∧ CC A' B' (c + 1) ∧ keepC A B A' B' c ∧ B' 157 c = s := by
  obtain ⟨p, c1, c2, c3, c4, c5, c6, c7⟩ := hc
  refine ⟨_, _, add143 c1 hc4, rules157 c2 hc4, PS_of h (fun o ho => by rw [zs_df (by omega), zs_df (by omega), zs_df (by omega)]) (fun o o1 o2 => by rw [zs_df o1, zs_df (by omega)]) (fun j hj => by rw [zs_sm, if_neg (by rintro rfl; exact absurd hj (by decide)), zs_df (by decide)]), ⟨p, by rw [zs_sm, if_pos rfl], by rw [zs_sm, if_pos rfl], by rw [zs_df (by decide), zs_df (by decide), zs_df (by decide)]; exact c3, by rw [zs_sm, if_neg (by decide), zs_df (by decide)]; exact c4, by omega, by omega, fun j hj => ?_⟩, ⟨fun o o1 o2 o3 o4 o5 => by rw [zs_df o3, zs_df o5, zs_df o4], fun o o1 o2 => by rw [zs_df o1, zs_df o2], fun j hj => by rw [zs_sm, if_neg (by rintro rfl; exact absurd hj (by decide)), zs_df (by decide)], fun j hj => by rw [zs_df (by decide), zs_sm, if_neg (by omega)]⟩, by rw [zs_df (by decide), zs_sm, if_pos rfl]⟩
  rw [zs_df (by decide), zs_df (by decide), zs_sm, zs_df (by decide), zs_sm, zs_df (by decide), zs_df (by decide), zs_sm]
  by_cases hjc : j = c
  · rw [if_pos hjc, if_pos hjc, if_pos hjc]
    exact hr
  · rw [if_neg hjc, if_neg hjc, if_neg hjc]
    exact c7 j (by omega)
def CQ (b : Nat → Nat) (t N : Nat) (A0 B0 A B : ZI) (m c e : Nat) (R : ZI → Nat → Prop) (A' B' : ZI) : Prop := ∃ m' c', PS 3 b t N A0 B0 A' B' m' ∧ CC A' B' c' ∧ keepC A B A' B' c ∧ m + e ≤ m' ∧ c ≤ c' ∧ c' + m ≤ c + m' ∧ R B' c'
theorem both_zbl {A0 B0 : ZI} {x y : Option (Int32 × ZI)} {Q : ZI → ZI → Prop} (h : Both A0 B0 x y Q) : Both A0 B0 (x.bind fun (v, M) => if zbl v = true then some (v, M) else none) y Q := by
  rcases h with ⟨A', B', rfl, e2, e3⟩ | ⟨A', B', rfl, e2, e3⟩
  · exact Or.inl ⟨A', B', rfl, e2, e3⟩
  · exact Or.inr ⟨A', B', rfl, e2, e3⟩
-- one part of the rule: a person, or most
theorem part_core {b : Nat → Nat} {t n N m c : Nat} {A0 B0 A B : ZI} {op s0 lo hi : Int32} (hC : CX 3 b t n N A0 B0) (h : PS 3 b t N A0 B0 A B m) (hc : CC A B c) (hcm : c ≤ m) (hr : ∀ v, v < 10000 → ¬ znn v < lo → ¬ hi < znn v → ruleRel op (znn v) (s0 + znn v) ∧ ((∃ j, j < 10 ∧ s0 + znn v = znn j) ∨ ∃ j, j < 11 ∧ s0 + znn v = znn (20 + j))) :
    Both A0 B0 ((f75_isNumber 119 lo hi A).bind fun (v6, M7) => (if v6 = 0 then some ((0 : Int32), M7) else (some op).bind fun v8 => (f74_add 143 v8 (M7 119 8) M7).bind fun M9 => (f68_forward 119 M9).bind fun M10 => zlet (zs M10 (119 + 23) 1 ((M10 (119 + 23) 1) + (1 : Int32))) fun (M11 : ZI) => some ((1 : Int32), M11)))
      ((f182_number lo hi B).bind fun (v6, M7) => (if v6 = 0 then some ((0 : Int32), M7) else (some s0).bind fun v8 => (f191_rules (v8 + (M7 148 29)) M7).bind fun M9 => zlet (zs M9 148 17 ((M9 148 17) + (1 : Int32))) fun (M10 : ZI) => some ((1 : Int32), M10)))
      (CQ b t N A0 B0 A B m c 1 (fun B' c' => pushC B' c c' 1)) := by
  have hN := hC.2.1.1
  rcases num_step hC h lo hi (by decide +kernel) with ⟨A', B', r1, r2, r3⟩ | ⟨v, A1, B1, hv, n1, n2, hm, n3, n4, -, -, n5, n6, n7, n8, n9⟩
  · rw [r1, r2]
    exact Or.inl ⟨A', B', rfl, rfl, r3⟩
  · obtain ⟨hr1, hr2⟩ := hr v hv n1 n2
    obtain ⟨p, c1, c2, c3, c4, c5, c6, c7⟩ := hc
    have b18 : B1 148 18 = znn c := by rw [n9 18 (by decide) (by decide) (by decide) (by decide) (by decide)]; exact c2
    have b17 : B1 148 17 = znn p := by rw [n9 17 (by decide) (by decide) (by decide) (by decide) (by decide)]; exact c4
    have b157 : B1 157 = B 157 := n8 157 (by decide)
    have gA : ∀ o, o ≠ 143 → o ≠ 144 → o ≠ 145 → (zs (zs (zs A 144 c op) 145 c (znn v)) 143 3 (znn (c + 1))) o = A o := fun o o1 o2 o3 => by rw [zs_df o1, zs_df o3, zs_df o2]
    obtain ⟨A4, f1, f2, f3⟩ := fwd_store hC h hm (fun o ho => gA o (by omega) (by omega) (by omega))
    have a142 : A4 142 1 = znn p := by rw [f2 142 (by decide), gA 142 (by decide) (by decide) (by decide)]; exact c3
    have d17 : (zs (zs B1 157 c (s0 + znn v)) 148 18 (znn (c + 1))) 148 17 = znn p := by rw [zs_sm, if_neg (by decide), zs_df (by decide)]; exact b17
    rw [n3, n5, Option.bind_some, Option.bind_some]
    dsimp only
    rw [if_neg (show ¬ (1 : Int32) = 0 by decide), if_neg (show ¬ (1 : Int32) = 0 by decide), Option.bind_some, Option.bind_some, n4, add143 c1 (by omega), Option.bind_some, f1, Option.bind_some, n7, rules157 b18 (by omega), Option.bind_some, show 119 + 23 = 142 from rfl, zlet_e, zlet_e, a142, d17, zadd1]
    refine Or.inr ⟨_, _, rfl, rfl, m + 1, c + 1, ?_, ⟨p + 1, ?_, ?_, ?_, ?_, by omega, by omega, fun j hj => ?_⟩, ⟨fun o o1 o2 o3 o4 o5 => ?_, fun o o1 o2 => ?_, fun j hj => ?_, fun j hj => ?_⟩, by omega, by omega, by omega, ?_⟩
    · exact PS_of (f3 A1 B1 n6) (fun o ho => by rw [zs_df (by omega)]) (fun o o1 o2 => by rw [zs_df o1, zs_df o1, zs_df (by omega)]) (fun j hj => by rw [zs_sm, if_neg (by rintro rfl; exact absurd hj (by decide)), zs_sm, if_neg (by rintro rfl; exact absurd hj (by decide)), zs_df (by decide)])
    · rw [zs_df (by decide), f2 143 (by decide), zs_sm, if_pos rfl]
    · rw [zs_sm, if_neg (by decide), zs_sm, if_pos rfl]
    · rw [zs_sm, if_pos rfl]
    · rw [zs_sm, if_pos rfl]
    · have x144 : (zs A4 142 1 (znn (p + 1))) 144 j = if j = c then op else A 144 j := by rw [zs_df (by decide), f2 144 (by decide), zs_df (by decide), zs_df (by decide), zs_sm]
      have x145 : (zs A4 142 1 (znn (p + 1))) 145 j = if j = c then znn v else A 145 j := by rw [zs_df (by decide), f2 145 (by decide), zs_df (by decide), zs_sm, zs_df (by decide)]
      have x157 : (zs (zs (zs B1 157 c (s0 + znn v)) 148 18 (znn (c + 1))) 148 17 (znn (p + 1))) 157 j = if j = c then s0 + znn v else B 157 j := by rw [zs_df (by decide), zs_df (by decide), zs_sm, b157]
      rw [x144, x145, x157]
      by_cases hjc : j = c
      · rw [if_pos hjc, if_pos hjc, if_pos hjc]
        exact hr1
      · rw [if_neg hjc, if_neg hjc, if_neg hjc]
        exact c7 j (by omega)
    · rw [zs_df o2, f2 o o1, gA o o3 o4 o5]
    · rw [zs_df o1, zs_df o1, zs_df o2, n8 o o1]
    · rw [zs_sm, if_neg (by rintro rfl; exact absurd hj (by decide)), zs_sm, if_neg (by rintro rfl; exact absurd hj (by decide)), zs_df (by decide)]
      exact n9 j (by rintro rfl; exact absurd hj (by decide)) (by rintro rfl; exact absurd hj (by decide)) (by rintro rfl; exact absurd hj (by decide)) (by rintro rfl; exact absurd hj (by decide)) (by rintro rfl; exact absurd hj (by decide))
    · rw [zs_df (by decide), zs_df (by decide), zs_sm, if_neg (by omega), b157]
    · refine pushC_part ?_
      rw [zs_df (by decide), zs_df (by decide), zs_sm, if_pos rfl]
      exact hr2
