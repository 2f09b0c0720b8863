-- ===== the class's own runs of steps =====
/-- a step of the class is that of the row -/
def opRel (op arg s v : Int32) : Prop :=
  (op = -2 ∧ s = 0 ∧ v = arg) ∨ (op = 300 ∧ ∃ j, j < 9 ∧ arg = znn j ∧ s = znn (j + 1)) ∨ (op = 47 ∧ s = 26 ∧ v = arg ∧ v ≠ 0) ∨ (op = 262 ∧ s = 30) ∨ (op = 43 ∧ s = 23) ∨ (op = 45 ∧ s = 24) ∨ (op = 42 ∧ s = 25) ∨ (op = 60 ∧ s = 27) ∨ (op = 61 ∧ s = 28) ∨ (op = 62 ∧ s = 29) ∨ (op = 261 ∧ s = 31) ∨ (op = 260 ∧ s = 32)
theorem zal_41 : zal 41 = 9 := rfl
theorem i32_23 {s : Int32} {k : Nat} (e : s = znn k) (h : k < 2147483648) : (s < 23) = (k < 23) := by
  rw [e, zl23]
  exact propext (zn_lt h (by decide))
theorem join_both {op s : Int32} (h : (op = 43 ∧ s = 23) ∨ (op = 45 ∧ s = 24) ∨ (op = 42 ∧ s = 25) ∨ (op = 60 ∧ s = 27) ∨ (op = 61 ∧ s = 28) ∨ (op = 62 ∧ s = 29) ∨ (op = 261 ∧ s = 31) ∨ (op = 260 ∧ s = 32)) (a b : Int32) : ∃ x, f34_joined op a b = some x ∧ f212_both s a b = some x := by
  rcases h with ⟨rfl, rfl⟩ | ⟨rfl, rfl⟩ | ⟨rfl, rfl⟩ | ⟨rfl, rfl⟩ | ⟨rfl, rfl⟩ | ⟨rfl, rfl⟩ | ⟨rfl, rfl⟩ | ⟨rfl, rfl⟩
  · exact ⟨a + b, rfl, rfl⟩
  · exact ⟨a - b, rfl, rfl⟩
  · exact ⟨a * b, rfl, rfl⟩
  · exact ⟨if a < b then 1 else 0, by show (if a < b then some (1 : Int32) else some 0) = _; split <;> rfl, by show (if a < b then some (1 : Int32) else some 0) = _; split <;> rfl⟩
  · exact ⟨if a = b then 1 else 0, by show (if a = b then some (1 : Int32) else some 0) = _; split <;> rfl, by show (if a = b then some (1 : Int32) else some 0) = _; split <;> rfl⟩
  · exact ⟨if b < a then 1 else 0, by show (if b < a then some (1 : Int32) else some 0) = _; split <;> rfl, by show (if b < a then some (1 : Int32) else some 0) = _; split <;> rfl⟩
  · exact ⟨a &&& b, rfl, rfl⟩
  · exact ⟨a ||| b, rfl, rfl⟩
theorem cls_step {F w : Nat → Int32} {c k i n : Nat} {st s1 : List Int32} {M : ZI} (hst : sStep F (w (1244 + 2 * i)) (w (1245 + 2 * i)) st = some s1) (hl : st.length ≤ 64) (hi : i < k) (hic : i < c) (hc : c ≤ 400) (hk : k < 100000) (hM : M 13 3 = znn c) (hop : opRel (M 14 i) (M 15 i) (w (1244 + 2 * i)) (w (1245 + 2 * i))) (hF : ∀ j, j < 9 → M 41 j = F j) (hs : stk (M 16) st) :
    ∃ M1, f30_l10 13 (znn k) 41 0 (n + 1) (znn st.length) (znn i) M = f30_l10 13 (znn k) 41 0 n (znn s1.length) (znn (i + 1)) M1 ∧ stk (M1 16) s1 ∧ ∀ o, o ≠ 16 → M1 o = M o := by
  have hi4 : zin (znn i) 400 = true := (zn_zin (by omega)).mpr (by omega)
  have e1 : znn i + 1 = znn (i + 1) := zn_add i 1
  rw [f30_l10, if_pos ((zn_lt (by omega) (by omega)).mpr hi), hM, if_pos ((zn_lt (by omega) (by omega)).mpr hic), if_pos hi4, zn_zi (show i < 2147483648 by omega), e1]
  simp only [zlet, Nat.reduceAdd]
  generalize hs' : w (1244 + 2 * i) = s at hst hop
  generalize hv' : w (1245 + 2 * i) = v at hst hop
  have zz : zi (znn i) = i := zn_zi (by omega)
  generalize ha' : M 15 i = arg at hop ⊢
  generalize M 14 i = op at hop ⊢
  have push : ∀ x : Int32, st.length < 64 → s1 = x :: st → ∃ M1, (if zin (znn st.length) 64 = true then f30_l10 13 (znn k) 41 0 n (znn st.length + 1) (znn (i + 1)) (zs M 16 (zi (znn st.length)) x) else none) = f30_l10 13 (znn k) 41 0 n (znn s1.length) (znn (i + 1)) M1 ∧ stk (M1 16) s1 ∧ ∀ o, o ≠ 16 → M1 o = M o := by
    intro x h1 h2
    subst h2
    rw [if_pos ((zn_zin (by omega)).mpr h1), zn_zi (by omega)]
    refine ⟨zs M 16 st.length x, by rw [show znn st.length + 1 = znn (st.length + 1) from zn_add _ 1]; rfl, ?_, fun o ho => by rw [zs_ap, if_neg ho]⟩
    rw [zs_ap, if_pos rfl]
    exact stk_push hs
  have h64 : ∀ h : st.length < 64, znn st.length < 64 := fun h => (zn_lt (by omega) (by decide)).mpr h
  rcases hop with ⟨rfl, rfl, rfl⟩ | ⟨rfl, j, hj, rfl, rfl⟩ | ⟨rfl, rfl, rfl, hv0⟩ | ⟨rfl, rfl⟩ | hop
  · unfold sStep at hst
    rw [if_pos (by decide)] at hst
    split at hst
    · rename_i h1
      rw [if_pos rfl] at hst
      cases hst
      exact (by
        have := push v h1 rfl
        rw [show f31_isValue (-2) = some 1 from rfl]
        simp only [Option.bind_some]
        rw [if_neg (by decide), if_pos (h64 h1), if_pos hi4]
        exact this)
    · cases hst
  · unfold sStep at hst
    rw [if_pos (by rw [zl23]; exact (zn_lt (by omega) (by decide)).mpr (by omega))] at hst
    split at hst
    · rename_i h1
      rw [if_neg (by rw [zl0, zn_eq (by omega) (by decide)]; omega), if_pos ((zn_zin (by omega)).mpr (by omega)), zn_zi (by omega), Nat.add_sub_cancel] at hst
      cases hst
      have := push (F j) h1 rfl
      rw [show f31_isValue 300 = some 1 from rfl]
      simp only [Option.bind_some]
      rw [if_neg (by decide), if_pos (h64 h1), if_pos hi4]
      have hv : f32_value 300 (znn j) 41 0 M = some (F j) := by
        unfold f32_value
        rw [if_neg (by decide), if_pos rfl, if_neg (zn_nneg (by omega)), zal_41, show Int32.ofNat 9 = znn 9 from rfl, if_pos ((zn_lt (by omega) (by decide)).mpr hj), if_pos ((zn_zin (by omega)).mpr hj), zn_zi (by omega), hF j hj]
      rw [hv]
      exact this
    · cases hst
  · unfold sStep at hst
    rw [if_neg (by decide)] at hst
    cases st with
    | nil => cases hst
    | cons b r =>
      simp only [List.length_cons] at hl
      simp only [↓reduceIte] at hst
      rw [if_neg hv0] at hst
      cases hst
      rw [show f31_isValue 47 = some 0 from rfl]
      simp only [Option.bind_some, List.length_cons, ↓reduceIte]
      have e2 : znn (r.length + 1) - 1 = znn r.length := zn_sub (i := r.length + 1) (j := 1) (by omega)
      have hz : zin (znn r.length) 64 = true := (zn_zin (by omega)).mpr (by omega)
      rw [if_pos (zlt0 (by omega) (by omega)), if_pos hi4, e2, if_pos hz, zz, e1, ha', zn_zi (show r.length < 2147483648 by omega), hs.1]
      have hv : f33_changed 47 v b = some (b / v) := by
        unfold f33_changed
        rw [if_neg (by decide), if_neg hv0, if_neg hv0]
      rw [hv]
      simp only [Option.bind_some]
      rw [if_pos hz]
      exact ⟨_, rfl, by rw [zs_ap, if_pos rfl]; exact stk_push hs.2, fun o ho => by rw [zs_ap, if_neg ho]⟩
  · unfold sStep at hst
    rw [if_neg (by decide)] at hst
    cases st with
    | nil => cases hst
    | cons b r =>
      simp only [List.length_cons] at hl
      simp only [↓reduceIte] at hst
      rw [if_neg (show (30 : Int32) ≠ 26 from by decide)] at hst
      cases hst
      rw [show f31_isValue 262 = some 0 from rfl]
      simp only [Option.bind_some, List.length_cons, ↓reduceIte]
      have e2 : znn (r.length + 1) - 1 = znn r.length := zn_sub (i := r.length + 1) (j := 1) (by omega)
      have hz : zin (znn r.length) 64 = true := (zn_zin (by omega)).mpr (by omega)
      rw [if_neg (by decide), if_pos (zlt0 (by omega) (by omega)), if_pos hi4, e2, if_pos hz, zz, e1, ha', zn_zi (show r.length < 2147483648 by omega), hs.1]
      rw [show f33_changed 262 arg b = some ((1 : Int32) - b) from rfl]
      simp only [Option.bind_some]
      rw [if_pos hz]
      exact ⟨_, rfl, by rw [zs_ap, if_pos rfl]; exact stk_push hs.2, fun o ho => by rw [zs_ap, if_neg ho]⟩
  · unfold sStep at hst
    have hs1 : ¬ s < 23 ∧ s ≠ 26 ∧ s ≠ 30 ∧ f31_isValue op = some 0 ∧ op ≠ 47 ∧ op ≠ 262 := by
      rcases hop with ⟨rfl, rfl⟩ | ⟨rfl, rfl⟩ | ⟨rfl, rfl⟩ | ⟨rfl, rfl⟩ | ⟨rfl, rfl⟩ | ⟨rfl, rfl⟩ | ⟨rfl, rfl⟩ | ⟨rfl, rfl⟩ <;> exact ⟨by decide, by decide, by decide, rfl, by decide, by decide⟩
    obtain ⟨c1, c2, c3, c4, c5, c6⟩ := hs1
    rw [if_neg c1] at hst
    cases st with
    | nil => cases hst
    | cons b r =>
      simp only at hst
      rw [if_neg c2, if_neg c3] at hst
      cases r with
      | nil => cases hst
      | cons a q =>
        simp only [List.length_cons] at hl
        simp only at hst
        obtain ⟨x, hj, hb⟩ := join_both hop a b
        rw [hb] at hst
        cases hst
        rw [c4]
        simp only [Option.bind_some, List.length_cons, ↓reduceIte]
        have e2 : znn (q.length + 1 + 1) + -1 = znn (q.length + 1) := zn_dec (k := q.length + 1 + 1) (by omega)
        have e3 : znn (q.length + 1) - 1 = znn q.length := zn_sub (i := q.length + 1) (j := 1) (by omega)
        have hz : zin (znn q.length) 64 = true := (zn_zin (by omega)).mpr (by omega)
        have hz2 : zin (znn (q.length + 1)) 64 = true := (zn_zin (by omega)).mpr (by omega)
        rw [if_neg c5, if_neg c6, if_pos (zlt1 (by omega) (by omega)), e2, e3, if_pos hz, if_pos hz2, zn_zi (show q.length < 2147483648 by omega), zn_zi (show q.length + 1 < 2147483648 by omega), hs.2.1, show M 16 (q.length + 1) = b from hs.1, hj]
        simp only [Option.bind_some]
        rw [if_pos hz]
        exact ⟨_, rfl, by rw [zs_ap, if_pos rfl]; exact stk_push hs.2.2, fun o ho => by rw [zs_ap, if_neg ho]⟩
theorem cls_run {F w : Nat → Int32} {c : Nat} (hc : c ≤ 400) : ∀ (k i : Nat) (st st' : List Int32) (M : ZI) (fuel : Nat), sRun F w k i st = some st' → k < fuel → st.length ≤ 64 → i + k ≤ c → M 13 3 = znn c → (∀ j, j < c → opRel (M 14 j) (M 15 j) (w (1244 + 2 * j)) (w (1245 + 2 * j))) → (∀ j, j < 9 → M 41 j = F j) → stk (M 16) st →
    ∃ M', f30_l10 13 (znn (i + k)) 41 0 fuel (znn st.length) (znn i) M = some (znn st'.length, M') ∧ stk (M' 16) st' ∧ ∀ o, o ≠ 16 → M' o = M o := by
  intro k
  induction k with
  | zero =>
    intro i st st' M fuel h hf hl hi hM hop hF hs
    obtain ⟨n, rfl⟩ : ∃ n, fuel = n + 1 := ⟨fuel - 1, by omega⟩
    cases h
    refine ⟨M, ?_, hs, fun _ _ => rfl⟩
    rw [f30_l10, if_neg (by rw [zn_lt (by omega) (by omega)]; omega)]
  | succ k ih =>
    intro i st st' M fuel h hf hl hi hM hop hF hs
    obtain ⟨n, rfl⟩ : ∃ n, fuel = n + 1 := ⟨fuel - 1, by omega⟩
    unfold sRun at h
    cases hst : sStep F (w (1244 + 2 * i)) (w (1245 + 2 * i)) st with
    | none => rw [hst] at h; cases h
    | some s1 =>
      rw [hst] at h
      simp only [Option.bind_some] at h
      obtain ⟨M1, e, h1, h2⟩ := cls_step (n := n) (k := i + (k + 1)) hst hl (by omega) (by omega) hc (by omega) hM (hop i (by omega)) hF hs
      rw [e, show i + (k + 1) = (i + 1) + k by omega]
      obtain ⟨M', a1, a2, a3⟩ := ih (i + 1) s1 st' M1 n h (by omega) (sStep_len hst hl) (by omega) (by rw [h2 13 (by decide)]; exact hM) (fun j hj => by rw [h2 14 (by decide), h2 15 (by decide)]; exact hop j hj) (fun j hj => by rw [h2 41 (by decide)]; exact hF j hj) h1
      exact ⟨M', a1, a2, fun o ho => (a3 o ho).trans (h2 o ho)⟩
/-- one piece of THE LAW, asked by the class and by the reference -/
theorem run_both {F w : Nat → Int32} {c a b : Nat} {x : Int32} {M : ZI} (hc : c ≤ 400) (h : sRun F w (b - a) a [] = some [x]) (hab : a ≤ b) (hb : b ≤ c) (hM : M 13 3 = znn c) (hop : ∀ j, j < c → opRel (M 14 j) (M 15 j) (w (1244 + 2 * j)) (w (1245 + 2 * j))) (hF : ∀ j, j < 9 → M 41 j = F j) :
    ∃ M', f30_run 13 (znn a) (znn b) 41 0 M = some (x, M') ∧ ∀ o, o ≠ 16 → M' o = M o := by
  obtain ⟨M', e, h1, h2⟩ := cls_run hc (b - a) a [] [x] M zfu h (by rw [zfu_eq]; omega) (Nat.zero_le _) (by omega) hM hop hF trivial
  refine ⟨M', ?_, h2⟩
  have e1 : zmax (znn a) 0 = znn a := by
    unfold zmax
    split
    · rename_i h3; exact absurd h3 (zn_nneg (by omega))
    · rfl
  rw [show a + (b - a) = b by omega, show znn ([] : List Int32).length = 0 from rfl] at e
  rw [f30_run, e1]
  simp only [zlet, e, Option.bind_some]
  rw [show znn [x].length = znn 1 from rfl, if_pos (by decide), if_pos (by decide)]
  have : M' (13 + 3) (zi (znn 1 - 1)) = x := h1.1
  rw [this]
theorem run_ref {F w : Nat → Int32} {a b : Nat} {x : Int32} {M : ZI} (h : sRun F w (b - a) a [] = some [x]) (hab : a ≤ b) (hb : b ≤ 410) (hw : M 149 = w) (hF : ∀ j, j < 9 → M 160 (j + 1) = F j) :
    ∃ M', f211_comesTo 0 (znn a) (znn b) M = some (x, M') ∧ ∀ o, o ≠ 159 → M' o = M o := by
  obtain ⟨M', e, h1, h2⟩ := ref_run (b - a) a [] [x] M zfu h (by rw [zfu_eq]; omega) (Nat.zero_le _) (by omega) hw hF trivial
  refine ⟨M', ?_, h2⟩
  rw [show a + (b - a) = b by omega, show znn ([] : List Int32).length = 0 from rfl] at e
  rw [f211_comesTo, e]
  simp only [Option.bind_some]
  have : M' 159 0 = x := h1.1
  rw [this]
