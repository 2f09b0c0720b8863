-- ===== THE COUNCIL's rule, on both sides =====
def popN : Nat → Nat → Nat
  | 0, _ => 0
  | k + 1, s => s % 2 + popN k (s / 2)
def pop (s : Nat) : Nat := popN 10 s
theorem popN_le : ∀ k s, popN k s ≤ k
  | 0, _ => Nat.le_refl _
  | k + 1, s => by
    have := popN_le k (s / 2)
    unfold popN
    omega
theorem pop_le (s : Nat) : pop s ≤ 10 := popN_le 10 s
theorem bitCount_zn {s : Nat} (h : s < 1024) : f28_bitCount (znn s) = some (znn (pop s)) := by
  have : ∀ s : Fin 1024, f28_bitCount (znn s.val) = some (znn (pop s.val)) := by decide +kernel
  exact this ⟨s, h⟩
theorem count_zn {s : Nat} (h : s < 1024) : f209_count (znn s) = some (znn (pop s)) := by
  have : ∀ s : Fin 1024, f209_count (znn s.val) = some (znn (pop s.val)) := by decide +kernel
  exact this ⟨s, h⟩
/-- one step of THE COUNCIL's rule, put to the set s -/
def cStep (S : Nat) (s : Int32) (st : List Int32) : Option (List Int32) :=
  if s < 40 then
    if st.length < 64 then
      if s < 20 then some ((zshr (znn S) s &&& 1) :: st) else some ((if znn (pop S) < s - 20 then 0 else 1) :: st)
    else none
  else match st with
  | [] => none
  | b :: r => match r with
    | [] => none
    | a :: q => some ((if s = 40 then a &&& b else a ||| b) :: q)
def cRun (S : Nat) (w : Nat → Int32) : Nat → Nat → List Int32 → Option (List Int32)
  | 0, _, st => some st
  | k + 1, i, st => (cStep S (w (162 + i)) st).bind (cRun S w k (i + 1))
def ruleRel (op arg s : Int32) : Prop :=
  (op = 301 ∧ ∃ j, j < 10 ∧ arg = znn j ∧ s = znn j) ∨ (op = 279 ∧ ∃ j, j < 11 ∧ arg = znn j ∧ s = znn (20 + j)) ∨ (op = 261 ∧ s = 40) ∨ (op = 260 ∧ s = 41)
theorem cStep_len {S : Nat} {s : Int32} {st st' : List Int32} (h : cStep S s st = some st') (hl : st.length ≤ 64) : st'.length ≤ 64 := by
  unfold cStep at h
  split at h
  · split at h
    · split at h <;> (cases h; simp only [List.length_cons]; omega)
    · cases h
  · cases st with
    | nil => cases h
    | cons b r => cases r with
      | nil => cases h
      | cons a q => cases h; simp only [List.length_cons] at hl ⊢; omega
theorem clc_step {S : Nat} (hS : S < 1024) {w : Nat → Int32} {k i n : Nat} {st s1 : List Int32} {M : ZI} (hst : cStep S (w (162 + i)) st = some s1) (hl : st.length ≤ 64) (hi : i < k) (hk : k ≤ 400) (hM : M 30 3 = znn k) (hop : ruleRel (M 31 i) (M 32 i) (w (162 + i))) (hs : stk (M 33) st) :
    ∃ M1, f30_l10n 30 (znn k) (znn S) (n + 1) (znn st.length) (znn i) M = f30_l10n 30 (znn k) (znn S) n (znn s1.length) (znn (i + 1)) M1 ∧ stk (M1 33) s1 ∧ ∀ o, o ≠ 33 → M1 o = M o := by
  have hi4 : zin (znn i) 400 = true := (zn_zin (by omega)).mpr (by omega)
  have e1 : znn i + 1 = znn (i + 1) := zn_add i 1
  have zz : zi (znn i) = i := zn_zi (by omega)
  have hik : znn i < znn k := (zn_lt (by omega) (by omega)).mpr hi
  rw [f30_l10n, if_pos hik, hM, if_pos hik, if_pos hi4, zz, e1]
  simp only [zlet, Nat.reduceAdd]
  generalize hs' : w (162 + i) = s at hst hop
  generalize ha' : M 32 i = arg at hop ⊢
  generalize M 31 i = op at hop ⊢
  have push : ∀ x : Int32, st.length < 64 → s1 = x :: st → ∃ M1, (if zin (znn st.length) 64 = true then f30_l10n 30 (znn k) (znn S) n (znn st.length + 1) (znn (i + 1)) (zs M 33 (zi (znn st.length)) x) else none) = f30_l10n 30 (znn k) (znn S) n (znn s1.length) (znn (i + 1)) M1 ∧ stk (M1 33) s1 ∧ ∀ o, o ≠ 33 → M1 o = M o := by
    intro x h1 h2
    subst h2
    rw [if_pos ((zn_zin (by omega)).mpr h1), zn_zi (by omega)]
    refine ⟨zs M 33 st.length x, by rw [show znn st.length + 1 = znn (st.length + 1) from zn_add _ 1]; rfl, ?_, fun o ho => by rw [zs_ap, if_neg ho]⟩
    rw [zs_ap, if_pos rfl]
    exact stk_push hs
  have h64 : ∀ h : st.length < 64, znn st.length < 64 := fun h => (zn_lt (by omega) (by decide)).mpr h
  have both : ∀ f : Int32 → Int32 → Int32, ¬ s < 40 → f31_isValue op = some 0 → op ≠ 47 → op ≠ 262 → (∀ a b, f34_joined op a b = some (f a b)) → (∀ a b, (if s = 40 then a &&& b else a ||| b) = f a b) → ∃ M1, ((f31_isValue op).bind fun v7 => if v7 = 0 then if op = 47 then if 0 < znn st.length then if zin (znn i) 400 = true then if zin (znn st.length - 1) 64 = true then (f33_changed op (M 32 (zi (znn i))) (M 33 (zi (znn st.length - 1)))).bind fun v11 => if zin (znn st.length - 1) 64 = true then f30_l10n 30 (znn k) (znn S) n (znn st.length) (znn i + 1) (zs M 33 (zi (znn st.length - 1)) v11) else none else none else none else f30_l10n 30 (znn k) (znn S) n (znn st.length) (znn i + 1) M else if op = 262 then if 0 < znn st.length then if zin (znn i) 400 = true then if zin (znn st.length - 1) 64 = true then (f33_changed op (M 32 (zi (znn i))) (M 33 (zi (znn st.length - 1)))).bind fun v11 => if zin (znn st.length - 1) 64 = true then f30_l10n 30 (znn k) (znn S) n (znn st.length) (znn i + 1) (zs M 33 (zi (znn st.length - 1)) v11) else none else none else none else f30_l10n 30 (znn k) (znn S) n (znn st.length) (znn i + 1) M else if 1 < znn st.length then if zin (znn st.length + -1 - 1) 64 = true then if zin (znn st.length + -1) 64 = true then (f34_joined op (M 33 (zi (znn st.length + -1 - 1))) (M 33 (zi (znn st.length + -1)))).bind fun v14 => if zin (znn st.length + -1 - 1) 64 = true then f30_l10n 30 (znn k) (znn S) n (znn st.length + -1) (znn (i + 1)) (zs M 33 (zi (znn st.length + -1 - 1)) v14) else none else none else none else f30_l10n 30 (znn k) (znn S) n (znn st.length) (znn (i + 1)) M else if znn st.length < 64 then if zin (znn i) 400 = true then (f32_valuen op arg (znn S) M).bind fun v16 => if zin (znn st.length) 64 = true then f30_l10n 30 (znn k) (znn S) n (znn st.length + 1) (znn (i + 1)) (zs M 33 (zi (znn st.length)) v16) else none else none else f30_l10n 30 (znn k) (znn S) n (znn st.length) (znn (i + 1)) M) = f30_l10n 30 (znn k) (znn S) n (znn s1.length) (znn (i + 1)) M1 ∧ stk (M1 33) s1 ∧ ∀ o, o ≠ 33 → M1 o = M o := by
    intro f c1 c4 c5 c6 hj hb
    unfold cStep at hst
    rw [if_neg c1] at hst
    cases st with
    | nil => cases hst
    | cons b r => cases r with
      | nil => cases hst
      | cons a q =>
        simp only [List.length_cons] at hl
        simp only [hb] at hst
        cases hst
        rw [c4]
        simp only [Option.bind_some, List.length_cons, ↓reduceIte]
        have e2 : znn (q.length + 1 + 1) + -1 = znn (q.length + 1) := zn_dec (k := q.length + 1 + 1) (by omega)
        have e3 : znn (q.length + 1) - 1 = znn q.length := zn_sub (i := q.length + 1) (j := 1) (by omega)
        have hz : zin (znn q.length) 64 = true := (zn_zin (by omega)).mpr (by omega)
        have hz2 : zin (znn (q.length + 1)) 64 = true := (zn_zin (by omega)).mpr (by omega)
        rw [if_neg c5, if_neg c6, if_pos (zlt1 (by omega) (by omega)), e2, e3, if_pos hz, if_pos hz2, zn_zi (show q.length < 2147483648 by omega), zn_zi (show q.length + 1 < 2147483648 by omega), hs.2.1, show M 33 (q.length + 1) = b from hs.1, hj]
        simp only [Option.bind_some]
        rw [if_pos hz]
        exact ⟨_, rfl, by rw [zs_ap, if_pos rfl]; exact stk_push hs.2.2, fun o ho => by rw [zs_ap, if_neg ho]⟩
  rcases hop with ⟨rfl, j, hj, rfl, rfl⟩ | ⟨rfl, j, hj, rfl, rfl⟩ | ⟨rfl, rfl⟩ | ⟨rfl, rfl⟩
  · unfold cStep at hst
    rw [if_pos (by rw [zl40]; exact (zn_lt (by omega) (by decide)).mpr (by omega))] at hst
    split at hst
    · rename_i h1
      rw [if_pos (by rw [zl20]; exact (zn_lt (by omega) (by decide)).mpr (by omega))] at hst
      cases hst
      have := push _ h1 rfl
      rw [show f31_isValue 301 = some 1 from rfl]
      simp only [Option.bind_some]
      rw [if_neg (by decide), if_pos (h64 h1), if_pos hi4, show f32_valuen 301 (znn j) (znn S) M = some (zshr (znn S) (znn j) &&& 1) from rfl]
      exact this
    · cases hst
  · unfold cStep at hst
    rw [if_pos (by rw [zl40]; exact (zn_lt (by omega) (by decide)).mpr (by omega))] at hst
    split at hst
    · rename_i h1
      rw [if_neg (by rw [zl20, zn_lt (by omega) (by decide)]; omega), show znn (20 + j) - 20 = znn j by rw [zl20, zn_sub (by omega)]; congr 1; omega] at hst
      cases hst
      have := push _ h1 rfl
      rw [show f31_isValue 279 = some 1 from rfl]
      simp only [Option.bind_some]
      have hv : f32_valuen 279 (znn j) (znn S) M = some (if znn (pop S) < znn j then 0 else 1) := by
        unfold f32_valuen
        rw [if_neg (by decide), if_neg (by decide), if_neg (by decide), bitCount_zn hS]
        simp only [Option.bind_some]
        split <;> rfl
      rw [if_neg (by decide), if_pos (h64 h1), if_pos hi4, hv]
      exact this
    · cases hst
  · exact both (fun a b => a &&& b) (by decide) rfl (by decide) (by decide) (fun _ _ => rfl) (fun _ _ => rfl)
  · exact both (fun a b => a ||| b) (by decide) rfl (by decide) (by decide) (fun _ _ => rfl) (fun _ _ => rfl)
theorem clc_run {S : Nat} (hS : S < 1024) {w : Nat → Int32} {c : Nat} (hc : c ≤ 400) : ∀ (k i : Nat) (st st' : List Int32) (M : ZI) (fuel : Nat), cRun S w k i st = some st' → k < fuel → st.length ≤ 64 → i + k = c → M 30 3 = znn c → (∀ j, j < c → ruleRel (M 31 j) (M 32 j) (w (162 + j))) → stk (M 33) st →
    ∃ M', f30_l10n 30 (znn c) (znn S) fuel (znn st.length) (znn i) M = some (znn st'.length, M') ∧ stk (M' 33) st' ∧ ∀ o, o ≠ 33 → M' o = M o := by
  intro k
  induction k with
  | zero =>
    intro i st st' M fuel h hf hl hi hM hop hs
    obtain ⟨n, rfl⟩ : ∃ n, fuel = n + 1 := ⟨fuel - 1, by omega⟩
    cases h
    refine ⟨M, ?_, hs, fun _ _ => rfl⟩
    rw [f30_l10n, if_neg (by rw [zn_lt (by omega) (by omega)]; omega)]
  | succ k ih =>
    intro i st st' M fuel h hf hl hi hM hop hs
    obtain ⟨n, rfl⟩ : ∃ n, fuel = n + 1 := ⟨fuel - 1, by omega⟩
    unfold cRun at h
    cases hst : cStep S (w (162 + i)) st with
    | none => rw [hst] at h; cases h
    | some s1 =>
      rw [hst] at h
      simp only [Option.bind_some] at h
      obtain ⟨M1, e, h1, h2⟩ := clc_step hS (n := n) (k := c) hst hl (by omega) hc hM (hop i (by omega)) hs
      rw [e]
      obtain ⟨M', a1, a2, a3⟩ := ih (i + 1) s1 st' M1 n h (by omega) (cStep_len hst hl) (by omega) (by rw [h2 30 (by decide)]; exact hM) (fun j hj => by rw [h2 31 (by decide), h2 32 (by decide)]; exact hop j hj) h1
      exact ⟨M', a1, a2, fun o ho => (a3 o ho).trans (h2 o ho)⟩
theorem rfc_run {S : Nat} (hS : S < 1024) {w : Nat → Int32} {c : Nat} (hc : c ≤ 400) : ∀ (k i : Nat) (st st' : List Int32) (M : ZI) (fuel : Nat), cRun S w k i st = some st' → k < fuel → st.length ≤ 64 → i + k = c → M 149 = w → w 54 = znn c → (∀ j, j < c → ∃ op arg, ruleRel op arg (w (162 + j))) → stk (M 159) st →
    ∃ M', f215_l4 (znn S) fuel (znn st.length) (znn i) M = some (znn st'.length, M') ∧ stk (M' 159) st' ∧ ∀ o, o ≠ 159 → M' o = M o := by
  intro k
  induction k with
  | zero =>
    intro i st st' M fuel h hf hl hi hw hM hop hs
    obtain ⟨n, rfl⟩ : ∃ n, fuel = n + 1 := ⟨fuel - 1, by omega⟩
    cases h
    refine ⟨M, ?_, hs, fun _ _ => rfl⟩
    rw [f215_l4, hw, hM, if_neg (by rw [zn_lt (by omega) (by omega)]; omega)]
  | succ k ih =>
    intro i st st' M fuel h hf hl hi hw hM hop hs
    obtain ⟨n, rfl⟩ : ∃ n, fuel = n + 1 := ⟨fuel - 1, by omega⟩
    unfold cRun at h
    cases hst : cStep S (w (162 + i)) st with
    | none => rw [hst] at h; cases h
    | some s1 =>
      rw [hst] at h
      simp only [Option.bind_some] at h
      have hz : zin (162 + znn i) 2064 = true := by rw [zl162, zn_add]; exact (zn_zin (by omega)).mpr (by omega)
      have zz : zi (162 + znn i) = 162 + i := by rw [zl162, zn_add, zn_zi (by omega)]
      have e1 : znn i + 1 = znn (i + 1) := zn_add i 1
      have fin : ∀ M1 : ZI, stk (M1 159) s1 → (∀ o, o ≠ 159 → M1 o = M o) → ∃ M', f215_l4 (znn S) n (znn s1.length) (znn (i + 1)) M1 = some (znn st'.length, M') ∧ stk (M' 159) st' ∧ ∀ o, o ≠ 159 → M' o = M o := by
        intro M1 h1 h2
        obtain ⟨M', a1, a2, a3⟩ := ih (i + 1) s1 st' M1 n h (by omega) (cStep_len hst hl) (by omega) ((h2 149 (by decide)).trans hw) hM hop h1
        exact ⟨M', a1, a2, fun o ho => (a3 o ho).trans (h2 o ho)⟩
      rw [f215_l4, hw, hM, if_pos ((zn_lt (by omega) (by omega)).mpr (by omega)), if_pos hz, zz, e1]
      obtain ⟨op, arg, hop⟩ := hop i (by omega)
      generalize w (162 + i) = s at hst hop ⊢
      simp only [zlet]
      have push : ∀ x : Int32, st.length < 64 → s1 = x :: st → ∃ M', (if zin (znn st.length) 420 = true then f215_l4 (znn S) n (znn st.length + 1) (znn (i + 1)) (zs M 159 (zi (znn st.length)) x) else none) = some (znn st'.length, M') ∧ stk (M' 159) st' ∧ ∀ o, o ≠ 159 → M' o = M o := by
        intro x h1 h2
        subst h2
        rw [if_pos ((zn_zin (by omega)).mpr (by omega)), zn_zi (by omega), show znn st.length + 1 = znn (st.length + 1) from zn_add _ 1]
        exact fin _ (by rw [zs_ap, if_pos rfl]; exact stk_push hs) (fun o ho => by rw [zs_ap, if_neg ho])
      rcases hop with ⟨-, j, hj, -, rfl⟩ | ⟨-, j, hj, -, rfl⟩ | hop
      · unfold cStep at hst
        have c1 : znn j < 40 := by rw [zl40]; exact (zn_lt (by omega) (by decide)).mpr (by omega)
        have c2 : znn j < 20 := by rw [zl20]; exact (zn_lt (by omega) (by decide)).mpr (by omega)
        rw [if_pos c1, if_pos c2] at hst
        rw [if_pos c1, if_pos c2]
        split at hst
        · cases hst
          exact push _ (by assumption) rfl
        · cases hst
      · unfold cStep at hst
        have c1 : znn (20 + j) < 40 := by rw [zl40]; exact (zn_lt (by omega) (by decide)).mpr (by omega)
        have c2 : ¬ znn (20 + j) < 20 := by rw [zl20, zn_lt (by omega) (by decide)]; omega
        rw [if_pos c1, if_neg c2] at hst
        rw [if_pos c1, if_neg c2, count_zn hS]
        simp only [Option.bind_some]
        split at hst
        · split at hst
          · rename_i c3
            cases hst
            rw [if_pos c3]
            exact push _ (by assumption) rfl
          · rename_i c3
            cases hst
            rw [if_neg c3]
            exact push _ (by assumption) rfl
        · cases hst
      · have c1 : ¬ s < 40 := by rcases hop with ⟨-, rfl⟩ | ⟨-, rfl⟩ <;> decide
        unfold cStep at hst
        rw [if_neg c1] at hst
        rw [if_neg c1]
        cases st with
        | nil => cases hst
        | cons b r => cases r with
          | nil => cases hst
          | cons a q =>
            simp only [List.length_cons] at hl
            simp only at hst
            have e2 : znn (q.length + 1 + 1) + -1 = znn (q.length + 1) := zn_dec (k := q.length + 1 + 1) (by omega)
            have e3 : znn (q.length + 1) - 1 = znn q.length := zn_sub (i := q.length + 1) (j := 1) (by omega)
            have hz1 : zin (znn q.length) 420 = true := (zn_zin (by omega)).mpr (by omega)
            have hz2 : zin (znn (q.length + 1)) 420 = true := (zn_zin (by omega)).mpr (by omega)
            simp only [List.length_cons]
            rw [e2, e3, if_pos hz1, if_pos hz2, if_pos hz1, if_pos hz1, if_pos hz2, if_pos hz1, zn_zi (show q.length < 2147483648 by omega), zn_zi (show q.length + 1 < 2147483648 by omega), hs.2.1, show M 159 (q.length + 1) = b from hs.1]
            split at hst
            · rename_i c3
              cases hst
              rw [if_pos c3]
              exact fin _ (by rw [zs_ap, if_pos rfl]; exact stk_push hs.2.2) (fun o ho => by rw [zs_ap, if_neg ho])
            · rename_i c3
              cases hst
              rw [if_neg c3]
              exact fin _ (by rw [zs_ap, if_pos rfl]; exact stk_push hs.2.2) (fun o ho => by rw [zs_ap, if_neg ho])
theorem cStep_pos {S : Nat} {s : Int32} {st st' : List Int32} (h : cStep S s st = some st') : st' ≠ [] := by
  unfold cStep at h
  split at h
  · split at h
    · split at h <;> (cases h; exact List.cons_ne_nil _ _)
    · cases h
  · cases st with
    | nil => cases h
    | cons b r => cases r with
      | nil => cases h
      | cons a q => cases h; exact List.cons_ne_nil _ _
theorem cRun_ne {S : Nat} {w : Nat → Int32} : ∀ (k i : Nat) (st : List Int32), cRun S w (k + 1) i st ≠ some []
  | k, i, st => by
    intro h
    unfold cRun at h
    cases hst : cStep S (w (162 + i)) st with
    | none => rw [hst] at h; cases h
    | some s1 =>
      rw [hst] at h
      simp only [Option.bind_some] at h
      cases k with
      | zero => cases h; exact cStep_pos hst rfl
      | succ k => exact cRun_ne k (i + 1) s1 h
/-- whether the set S does for THE COUNCIL: 1, 0 -/
def sSat (w : Nat → Int32) (S : Nat) : Int32 := match cRun S w (zi (w 54)) 0 [] with
  | some (x :: _) => x
  | _ => 1
def ruleOk (w : Nat → Int32) : Prop := ∃ c, c ≤ 400 ∧ w 54 = znn c ∧ (c = 0 ↔ w 53 = 0) ∧ (∀ j, j < c → ∃ op arg, ruleRel op arg (w (162 + j))) ∧ ∀ S, S < 1024 → cRun S w c 0 [] = some [] ∨ ∃ x, (x = 0 ∨ x = 1) ∧ cRun S w c 0 [] = some [x]
/-- the class has THE COUNCIL of the row w; t is its place -/
def ruleIs (M : ZI) (t : Nat) (w : Nat → Int32) : Prop := M t 1 = w 53 ∧ M (t + 1) 3 = w 54 ∧ ∀ j, j < zi (w 54) → ruleRel (M (t + 2) j) (M (t + 3) j) (w (162 + j))
theorem met_eq {w : Nat → Int32} {M : ZI} {S : Nat} (hS : S < 1024) (hr : ruleOk w) (hi : ruleIs M 29 w) : ∃ M', f37_isMetBy 29 (znn S) M = some (sSat w S, M') ∧ ∀ o, o ≠ 33 → M' o = M o := by
  obtain ⟨c, hc, h54, h53, -, hrun⟩ := hr
  obtain ⟨e1, e2, e3⟩ := hi
  simp only [Nat.reduceAdd] at e2 e3
  have hzc : zi (w 54) = c := by rw [h54, zn_zi (by omega)]
  unfold f37_isMetBy
  by_cases h0 : w 53 = 0
  · rw [e1, if_pos h0]
    have : c = 0 := h53.mpr h0
    subst this
    exact ⟨M, by rw [sSat, hzc]; rfl, fun _ _ => rfl⟩
  · rw [e1, if_neg h0]
    have hc0 : c ≠ 0 := fun e => h0 (h53.mp e)
    rw [hzc] at e3
    have fin : ∀ x st' M', cRun S w c 0 [] = some st' → st' = [x] → (x = 0 ∨ x = 1) → f30_l10n 30 (znn c) (znn S) zfu (znn ([] : List Int32).length) (znn 0) M = some (znn st'.length, M') → stk (M' 33) st' → (∀ o, o ≠ 33 → M' o = M o) → ∃ M', (f30_runn (29 + 1) 0 (M (29 + 1) 3) (znn S) M).bind (fun p => if p.1 = 0 then some ((0 : Int32), p.2) else some ((1 : Int32), p.2)) = some (sSat w S, M') ∧ ∀ o, o ≠ 33 → M' o = M o := by
      intro x st' M' h1 h2 h3 h4 h5 h6
      subst h2
      refine ⟨M', ?_, h6⟩
      have hv : f30_runn 30 0 (M 30 3) (znn S) M = some (x, M') := by
        unfold f30_runn
        rw [show zmax 0 0 = znn 0 from rfl, e2, h54]
        simp only [zlet]
        rw [show znn ([] : List Int32).length = 0 from rfl] at h4
        rw [h4]
        simp only [Option.bind_some]
        rw [show znn [x].length = znn 1 from rfl, if_pos (by decide), if_pos (by decide)]
        have : M' (30 + 3) (zi (znn 1 - 1)) = x := h5.1
        rw [this]
      have hss : sSat w S = x := by rw [sSat, hzc, h1]
      simp only [Nat.reduceAdd]
      rw [hv, hss]
      rcases h3 with rfl | rfl
      · rfl
      · rfl
    rcases hrun S hS with h1 | ⟨x, hx, h1⟩
    · exfalso
      obtain ⟨k, rfl⟩ : ∃ k, c = k + 1 := ⟨c - 1, by omega⟩
      exact cRun_ne k 0 [] h1
    · obtain ⟨M', a1, a2, a3⟩ := clc_run hS hc c 0 [] [x] M zfu h1 (by rw [zfu_eq]; omega) (Nat.zero_le _) (by omega) (by rw [e2, h54]) e3 trivial
      exact fin x [x] M' h1 rfl hx a1 a2 a3
theorem sat_eq {w : Nat → Int32} {M : ZI} {S : Nat} (hS : S < 1024) (hr : ruleOk w) (hw : M 149 = w) : ∃ M', f215_satisfies (znn S) M = some (sSat w S, M') ∧ ∀ o, o ≠ 159 → M' o = M o := by
  obtain ⟨c, hc, h54, h53, hop, hrun⟩ := hr
  have hzc : zi (w 54) = c := by rw [h54, zn_zi (by omega)]
  have fin : ∀ st' M', cRun S w c 0 [] = some st' → f215_l4 (znn S) zfu (znn ([] : List Int32).length) (znn 0) M = some (znn st'.length, M') → f215_satisfies (znn S) M = (if znn st'.length = 0 then some (1, M') else if M' 159 0 = 1 then some (1, M') else some (0, M')) := by
    intro st' M' _ h
    unfold f215_satisfies
    rw [show znn ([] : List Int32).length = 0 from rfl] at h
    rw [show (0 : Int32) = znn 0 from rfl] at *
    rw [h]
    rfl
  rcases hrun S hS with h1 | ⟨x, hx, h1⟩
  · obtain ⟨M', a1, a2, a3⟩ := rfc_run hS hc c 0 [] [] M zfu h1 (by rw [zfu_eq]; omega) (Nat.zero_le _) (by omega) hw h54 hop trivial
    refine ⟨M', ?_, a3⟩
    rw [fin _ M' h1 a1, if_pos (show znn ([] : List Int32).length = 0 from rfl), sSat, hzc, h1]
  · obtain ⟨M', a1, a2, a3⟩ := rfc_run hS hc c 0 [] [x] M zfu h1 (by rw [zfu_eq]; omega) (Nat.zero_le _) (by omega) hw h54 hop trivial
    refine ⟨M', ?_, a3⟩
    rw [fin _ M' h1 a1, if_neg (show ¬ znn [x].length = 0 from (by decide : ¬ znn 1 = 0)), sSat, hzc, h1]
    have : M' 159 0 = x := a2.1
    rw [this]
    rcases hx with rfl | rfl
    · rfl
    · rfl
theorem sSat_01 {w : Nat → Int32} (hr : ruleOk w) {S : Nat} (hS : S < 1024) : sSat w S = 0 ∨ sSat w S = 1 := by
  obtain ⟨c, hc, h54, -, -, hrun⟩ := hr
  have hzc : zi (w 54) = c := by rw [h54, zn_zi (by omega)]
  rw [sSat, hzc]
  rcases hrun S hS with h1 | ⟨x, hx, h1⟩
  · rw [h1]; exact Or.inr rfl
  · rw [h1]; exact hx
