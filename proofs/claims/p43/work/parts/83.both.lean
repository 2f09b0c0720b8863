-- ===== text: two parsers in step =====
def Both (A0 B0 : ZI) (x y : Option (Int32 × ZI)) (Q : ZI → ZI → Prop) : Prop := (∃ A' B', x = some (0, A') ∧ y = some (0, B') ∧ Bad A0 B0 A' B') ∨ ∃ A' B', x = some (1, A') ∧ y = some (1, B') ∧ Q A' B'
theorem both_bind {A0 B0 : ZI} {x y : Option (Int32 × ZI)} {k l : Int32 × ZI → Option (Int32 × ZI)} {Q R : ZI → ZI → Prop} (h : Both A0 B0 x y Q) (k0 : ∀ A', k (0, A') = some (0, A')) (l0 : ∀ B', l (0, B') = some (0, B')) (h1 : ∀ A' B', Q A' B' → Both A0 B0 (k (1, A')) (l (1, B')) R) : Both A0 B0 (x.bind k) (y.bind l) R := by
  rcases h with ⟨A', B', rfl, rfl, hb⟩ | ⟨A', B', rfl, rfl, hq⟩
  · exact Or.inl ⟨A', B', k0 A', l0 B', hb⟩
  · exact h1 A' B' hq
theorem both_mono {A0 B0 : ZI} {x y : Option (Int32 × ZI)} {Q R : ZI → ZI → Prop} (h : Both A0 B0 x y Q) (g : ∀ A' B', Q A' B' → R A' B') : Both A0 B0 x y R := by
  rcases h with h | ⟨A', B', e1, e2, hq⟩
  · exact Or.inl h
  · exact Or.inr ⟨A', B', e1, e2, g _ _ hq⟩
theorem both_rfz {a : Nat} {b : Nat → Nat} {t n N m : Nat} {A0 B0 A B : ZI} {Q : ZI → ZI → Prop} {k l : Int32 × ZI → Option (Int32 × ZI)} (hC : CX a b t n N A0 B0) (h : PS a b t N A0 B0 A B m) (x : Int32) (k0 : ∀ A', k (0, A') = some (0, A')) (l0 : ∀ B', l (0, B') = some (0, B')) : Both A0 B0 ((f70_refuse 119 x A).bind k) ((f170_bad x B).bind l) Q := by
  obtain ⟨A', B', e1, e2, e3⟩ := rfz hC h x
  exact Or.inl ⟨A', B', by rw [e1]; exact k0 A', by rw [e2]; exact l0 B', e3⟩
def qcell (j : Nat) : Bool := decide (j ∈ [15, 16, 17, 18, 24, 25, 27, 29])
theorem PS_of {a : Nat} {b : Nat → Nat} {t N m : Nat} {A0 B0 A B A' B' : ZI} (h : PS a b t N A0 B0 A B m) (g1 : ∀ o, ¬ (124 ≤ o ∧ o ≤ 146) → A' o = A o) (g2 : ∀ o, o ≠ 148 → ¬ (153 ≤ o ∧ o ≤ 157) → B' o = B o) (g3 : ∀ j, qcell j = false → B' 148 j = B 148 j) : PS a b t N A0 B0 A' B' m := by
  obtain ⟨⟨p1, p2, p3⟩, ⟨p4, p5, p6, p6a, p6b⟩, p7, p8, p9, p10⟩ := h
  have e : A' 119 = A 119 := g1 119 (by omega)
  unfold PS
  rw [e, g3 22 rfl, g3 20 rfl, g3 21 rfl, g3 23 rfl]
  refine ⟨⟨⟨fun o o1 o2 => (g1 o o2).trans (p1.1 o o1 o2), fun j j1 j2 j3 j4 j5 => by rw [e]; exact p1.2 j j1 j2 j3 j4 j5⟩, ⟨fun o o1 o2 => (g2 o o1 o2).trans (p2.1 o o1 o2), fun j hj => (g3 j ?_).trans (p2.2 j hj)⟩, p3⟩, ⟨p4, p5, p6, p6a, p6b⟩, p7, p8, p9, p10⟩
  unfold pcell at hj
  unfold qcell
  simp only [List.mem_cons, List.not_mem_nil, or_false, decide_eq_false_iff_not, not_or] at hj ⊢
  omega
-- runs of steps
theorem sRun_add {F w : Nat → Int32} : ∀ k1 k2 i st, sRun F w (k1 + k2) i st = (sRun F w k1 i st).bind (sRun F w k2 (i + k1))
  | 0, k2, i, st => by rw [Nat.zero_add]; rfl
  | k1 + 1, k2, i, st => by
    rw [show k1 + 1 + k2 = (k1 + k2) + 1 by omega, sRun, sRun]
    cases sStep F (w (1244 + 2 * i)) (w (1245 + 2 * i)) st with
    | none => rfl
    | some s => rw [Option.bind_some, Option.bind_some, sRun_add k1 k2 (i + 1) s, show i + 1 + k1 = i + (k1 + 1) by omega]
theorem sRun_cong {F w w' : Nat → Int32} (k : Nat) : ∀ i st, (∀ j, i ≤ j → j < i + k → w (1244 + 2 * j) = w' (1244 + 2 * j) ∧ w (1245 + 2 * j) = w' (1245 + 2 * j)) → sRun F w k i st = sRun F w' k i st := by
  induction k with
  | zero => intro i st h; rfl
  | succ k ih =>
    intro i st h
    have h12 := h i (Nat.le_refl _) (Nat.lt_add_of_pos_right (Nat.succ_pos k))
    have hr : ∀ s, sRun F w k (i + 1) s = sRun F w' k (i + 1) s := fun s => ih (i + 1) s (fun j j1 j2 => h j (Nat.le_of_succ_le j1) (by rw [show i + (k + 1) = i + 1 + k by omega]; exact j2))
    unfold sRun
    rw [h12.1, h12.2]
    congr 1
    funext s
    exact hr s
/-- the reference's draft of steps, as a row -/
def dft (B : ZI) : Nat → Int32 := fun i => B 154 (i - 1244)
theorem dft_0 (B : ZI) (j : Nat) : dft B (1244 + 2 * j) = B 154 (2 * j) := by
  unfold dft
  rw [show 1244 + 2 * j - 1244 = 2 * j by omega]
theorem dft_1 (B : ZI) (j : Nat) : dft B (1245 + 2 * j) = B 154 (2 * j + 1) := by
  unfold dft
  rw [show 1245 + 2 * j - 1244 = 2 * j + 1 by omega]
/-- the steps from c to c' put one value upon the stack, with room for h -/
def pushes (B : ZI) (c c' h : Nat) (P : Int32 → Prop) : Prop := c ≤ c' ∧ ∀ F st, st.length + h ≤ 64 → ∃ x, P x ∧ sRun F (dft B) (c' - c) c st = some (x :: st)
def anyV : Int32 → Prop := fun _ => True
def bitV : Int32 → Prop := fun x => x = 0 ∨ x = 1
theorem pushes_keep {B B' : ZI} {c c' h : Nat} {P : Int32 → Prop} (hp : pushes B c c' h P) (g : ∀ j, j < 2 * c' → B' 154 j = B 154 j) : pushes B' c c' h P := by
  obtain ⟨h1, h2⟩ := hp
  refine ⟨h1, fun F st hl => ?_⟩
  obtain ⟨x, hx, e⟩ := h2 F st hl
  refine ⟨x, hx, ?_⟩
  rw [← e]
  exact sRun_cong _ _ _ (fun j j1 j2 => by rw [dft_0, dft_0, dft_1, dft_1]; exact ⟨g _ (by omega), g _ (by omega)⟩)
theorem pushes_mono {B : ZI} {c c' h h' : Nat} {P : Int32 → Prop} (hp : pushes B c c' h P) (g : h ≤ h') : pushes B c c' h' P := ⟨hp.1, fun F st hl => hp.2 F st (by omega)⟩
theorem pushes_any {B : ZI} {c c' h : Nat} {P : Int32 → Prop} (hp : pushes B c c' h P) : pushes B c c' h anyV := ⟨hp.1, fun F st hl => by
  obtain ⟨x, -, e⟩ := hp.2 F st hl
  exact ⟨x, trivial, e⟩⟩
theorem pushes_unit {B : ZI} {c : Nat} (h : B 154 (2 * c) = 0 ∨ ∃ j, j < 9 ∧ B 154 (2 * c) = znn (j + 1)) : pushes B c (c + 1) 1 anyV := by
  refine ⟨by omega, fun F st hl => ?_⟩
  rw [show c + 1 - c = 0 + 1 by omega, sRun, dft_0, dft_1]
  unfold sStep
  rcases h with h | ⟨j, hj, h⟩
  · rw [h, if_pos (show (0 : Int32) < 23 by decide), if_pos (by omega), if_pos rfl]
    exact ⟨_, trivial, rfl⟩
  · rw [h, if_pos (show znn (j + 1) < 23 by rw [zl23, zn_lt (by omega) (by decide)]; omega), if_pos (by omega), if_neg (show ¬ znn (j + 1) = 0 by rw [zl0, zn_eq (by omega) (by decide)]; omega), if_pos ((zn_zin (by omega)).mpr (by omega))]
    exact ⟨_, trivial, rfl⟩
theorem pushes_snoc {B : ZI} {c c1 h : Nat} {P R : Int32 → Prop} (hp : pushes B c c1 h P) (g : ∀ F x st, P x → ∃ z, R z ∧ sStep F (B 154 (2 * c1)) (B 154 (2 * c1 + 1)) (x :: st) = some (z :: st)) : pushes B c (c1 + 1) h R := by
  obtain ⟨h1, h2⟩ := hp
  refine ⟨by omega, fun F st hl => ?_⟩
  obtain ⟨x, hx, e⟩ := h2 F st hl
  obtain ⟨z, hz, e2⟩ := g F x st hx
  refine ⟨z, hz, ?_⟩
  rw [show c1 + 1 - c = (c1 - c) + (0 + 1) by omega, sRun_add, e, Option.bind_some, show c + (c1 - c) = c1 by omega, sRun, dft_0, dft_1, e2]
  rfl
theorem pushes_div {B : ZI} {c c1 h : Nat} (hp : pushes B c c1 h anyV) (h1 : B 154 (2 * c1) = 26) (h2 : B 154 (2 * c1 + 1) ≠ 0) : pushes B c (c1 + 1) h anyV := pushes_snoc hp (fun F x st _ => by
  unfold sStep
  rw [h1, if_neg (show ¬ (26 : Int32) < 23 by decide)]
  dsimp only
  rw [if_pos rfl, if_neg h2]
  exact ⟨_, trivial, rfl⟩)
theorem pushes_not {B : ZI} {c c1 h : Nat} (hp : pushes B c c1 h bitV) (h1 : B 154 (2 * c1) = 30) : pushes B c (c1 + 1) h bitV := pushes_snoc hp (fun F x st hx => by
  unfold sStep
  rw [h1, if_neg (show ¬ (30 : Int32) < 23 by decide)]
  dsimp only
  rw [if_neg (show ¬ (30 : Int32) = 26 by decide), if_pos rfl]
  refine ⟨_, ?_, rfl⟩
  rcases hx with rfl | rfl
  · exact Or.inr (by decide)
  · exact Or.inl (by decide))
theorem pushes_two {B : ZI} {c c1 c2 h1 h2 h : Nat} {P Q R : Int32 → Prop} (hp : pushes B c c1 h1 P) (hq : pushes B c1 c2 h2 Q) (g1 : h1 ≤ h) (g2 : h2 + 1 ≤ h) (s : Int32) (hs : B 154 (2 * c2) = s) (hs1 : ¬ s < 23 ∧ s ≠ 26 ∧ s ≠ 30) (hb : ∀ x y, P x → Q y → ∃ z, R z ∧ f212_both s x y = some z) : pushes B c (c2 + 1) h R := by
  obtain ⟨p1, p2⟩ := hp
  obtain ⟨q1, q2⟩ := hq
  refine ⟨by omega, fun F st hl => ?_⟩
  obtain ⟨x, hx, e1⟩ := p2 F st (by omega)
  obtain ⟨y, hy, e2⟩ := q2 F (x :: st) (by simp only [List.length_cons]; omega)
  obtain ⟨z, hz, e3⟩ := hb x y hx hy
  refine ⟨z, hz, ?_⟩
  rw [show c2 + 1 - c = (c1 - c) + ((c2 - c1) + (0 + 1)) by omega, sRun_add, e1, Option.bind_some, show c + (c1 - c) = c1 by omega, sRun_add, e2, Option.bind_some, show c1 + (c2 - c1) = c2 by omega, sRun, dft_0, hs]
  unfold sStep
  rw [if_neg hs1.1]
  dsimp only
  rw [if_neg hs1.2.1, if_neg hs1.2.2, e3]
  rfl
theorem both_any (s : Int32) : ∀ x y, anyV x → anyV y → ∃ z, anyV z ∧ f212_both s x y = some z := by
  intro x y _ _
  unfold f212_both
  repeat' split
  all_goals exact ⟨_, trivial, rfl⟩
theorem both_cmp {s : Int32} (h : s = 27 ∨ s = 28 ∨ s = 29) : ∀ x y, anyV x → anyV y → ∃ z, bitV z ∧ f212_both s x y = some z := by
  intro x y _ _
  unfold f212_both
  rcases h with rfl | rfl | rfl
  · rw [if_neg (by decide), if_neg (by decide), if_neg (by decide), if_neg (by decide), if_pos rfl]
    split
    · exact ⟨_, Or.inr rfl, rfl⟩
    · exact ⟨_, Or.inl rfl, rfl⟩
  · rw [if_neg (by decide), if_neg (by decide), if_neg (by decide), if_neg (by decide), if_neg (by decide), if_pos rfl]
    split
    · exact ⟨_, Or.inr rfl, rfl⟩
    · exact ⟨_, Or.inl rfl, rfl⟩
  · rw [if_neg (by decide), if_neg (by decide), if_neg (by decide), if_neg (by decide), if_neg (by decide), if_neg (by decide), if_pos rfl]
    split
    · exact ⟨_, Or.inr rfl, rfl⟩
    · exact ⟨_, Or.inl rfl, rfl⟩
theorem both_and : ∀ x y, bitV x → bitV y → ∃ z, bitV z ∧ f212_both 31 x y = some z := by
  intro x y hx hy
  rcases hx with rfl | rfl <;> rcases hy with rfl | rfl
  · exact ⟨0, Or.inl rfl, by decide⟩
  · exact ⟨0, Or.inl rfl, by decide⟩
  · exact ⟨0, Or.inl rfl, by decide⟩
  · exact ⟨1, Or.inr rfl, by decide⟩
theorem both_or : ∀ x y, bitV x → bitV y → ∃ z, bitV z ∧ f212_both 32 x y = some z := by
  intro x y hx hy
  rcases hx with rfl | rfl <;> rcases hy with rfl | rfl
  · exact ⟨0, Or.inl rfl, by decide⟩
  · exact ⟨1, Or.inr rfl, by decide⟩
  · exact ⟨1, Or.inr rfl, by decide⟩
  · exact ⟨1, Or.inr rfl, by decide⟩
